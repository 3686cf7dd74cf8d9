import java.util.ArrayList;
import java.util.List;
import java.util.Random;

/** Random runs, right ones and spoiled ones, held against the model in all that can be asked. */
public final class ModelTest {
    private static final Probe probe = new Probe();
    private static final int THROWS_ARGUMENT = 1;
    private static final int THROWS_STATE = 2;
    private static final String[] SCRAPS = {"dimension", "measure", "member", "select", "where", "group",
        "by", "rollup", "cube", "grouping", "sum", "count", "min", "max", "and", "or", "not", "between",
        "in", "(", ")", ",", ";", ".", "*", "=", "<", ">", "<=", ">=", "<>", "5", "-7", "2147483648",
        "-2147483648", "$", "-", "_", "d0", "d1", "l0", "l1", "m0", "zz", "\u00ff", "\u0000",
        "a23456789012345678901234567890123456789012"};

    private final Random random;
    private final QuestionReader reader = new QuestionReader();
    private final Model model = new Model();
    private final int[] faults;

    private ModelTest(long seed, int[] faults) {
        random = new Random(seed);
        this.faults = faults;
    }

    public static void main(String[] args) {
        int runs = args.length > 0 ? Integer.parseInt(args[0]) : 1500;
        int[] faults = new int[12];
        for (int seed = 0; seed < runs; seed++) {
            new ModelTest(seed, faults).go();
        }
        for (int kind = 0; kind < faults.length; kind++) {
            System.out.println("texts with fault " + kind + ": " + faults[kind]);
            probe.due("texts of each kind of fault", faults[kind] > 0, true);
        }
        probe.end();
    }

    private void go() {
        int texts = 1 + random.nextInt(6);
        for (int i = 0; i < texts; i++) {
            runBoth(catalogText());
        }
        if (random.nextInt(10) > 0) {
            runBoth(rightCatalog());
        }
        probe.due("open", reader.open(), model.open());
        askAll();
        for (int i = 0; i < 8; i++) {
            StringBuilder text = new StringBuilder();
            int questions = 1 + random.nextInt(3);
            for (int k = 0; k < questions; k++) {
                text.append(written(spoiled(question())));
            }
            runBoth(random.nextInt(30) == 0 ? catalogText() : text.toString());
            askTruths();
        }
    }

    private void runBoth(String text) {
        Probe.feed(reader, text);
        probe.due("bytes of " + text, reader.count(2), text.length());
        probe.due("run of " + text, reader.run(), model.run(text));
        probe.due("fault of " + text, reader.fault(0), model.faultKind);
        probe.due("place of the fault of " + text, reader.fault(1), model.faultPlace);
        faults[model.faultKind]++;
        askAll();
    }

    private boolean chance(int percent) {
        return random.nextInt(100) < percent;
    }

    private String oneOf(String... choices) {
        return choices[random.nextInt(choices.length)];
    }

    private String written(List<String> tokens) {
        StringBuilder text = new StringBuilder();
        String before = " ";
        for (String token : tokens) {
            boolean glues = wordlike(before.charAt(before.length() - 1)) && wordlike(token.charAt(0));
            if (glues || chance(20)) {
                text.append(oneOf(" ", "\n", "\t", "\r", "  "));
            }
            text.append(token);
            before = token;
        }
        return text.append(chance(20) ? " " : "").toString();
    }

    private static boolean wordlike(char letter) {
        return Character.isLetterOrDigit(letter) || letter == '_';
    }

    private List<String> spoiled(List<String> tokens) {
        while (chance(30) && !tokens.isEmpty()) {
            int at = random.nextInt(tokens.size());
            switch (random.nextInt(4)) {
                case 0:
                    tokens.remove(at);
                    break;
                case 1:
                    tokens.add(at, SCRAPS[random.nextInt(SCRAPS.length)]);
                    break;
                case 2:
                    tokens.set(at, SCRAPS[random.nextInt(SCRAPS.length)]);
                    break;
                default:
                    while (tokens.size() > at && chance(80)) {
                        tokens.remove(tokens.size() - 1);
                    }
            }
        }
        return tokens;
    }

    private String catalogText() {
        StringBuilder text = new StringBuilder();
        int statements = random.nextInt(5);
        for (int i = 0; i < statements; i++) {
            text.append(written(chance(30) ? spoiled(catalogStatement()) : catalogStatement()));
        }
        return text.toString();
    }

    private List<String> catalogStatement() {
        List<String> tokens = new ArrayList<>();
        int kind = random.nextInt(4);
        if (kind == 0) {
            add(tokens, "dimension", "d" + random.nextInt(12), "(");
            int levels = chance(5) ? 5 : 1 + random.nextInt(4);
            for (int i = 0; i < levels; i++) {
                add(tokens, "l" + (chance(5) ? random.nextInt(4) : i), i < levels - 1 ? "," : ")");
            }
        } else if (kind == 1) {
            add(tokens, "measure", chance(80) ? "m" + random.nextInt(12) : "d" + random.nextInt(12));
        } else {
            memberStatement(tokens);
        }
        add(tokens, ";");
        return tokens;
    }

    private void memberStatement(List<String> tokens) {
        int d = model.dimensions.isEmpty() ? -1 : random.nextInt(model.dimensions.size());
        add(tokens, "member", d < 0 ? "d0" : model.dimension(d).name);
        int levels = d < 0 ? 1 : model.dimension(d).levels.size();
        int members = 1 + random.nextInt(5);
        for (int i = 0; i < members; i++) {
            int value = chance(90) ? random.nextInt(100) - 30 : random.nextInt();
            int count = chance(3) ? random.nextInt(6) + 1 : levels;
            add(tokens, i > 0 ? "," : "(");
            if (i > 0) {
                add(tokens, "(");
            }
            for (int level = 0; level < count; level++) {
                add(tokens, "" + (chance(98) ? value >> (2 * level) : random.nextInt(10)));
                add(tokens, level < count - 1 ? "," : ")");
            }
        }
    }

    /** What lets the reader open, whatever was told before. */
    private String rightCatalog() {
        StringBuilder text = new StringBuilder();
        if (model.measures.isEmpty()) {
            text.append("measure mm;");
        }
        if (model.dimensions.isEmpty()) {
            text.append("dimension dd(l0,l1,l2,l3);member dd(5,2,1,0),(6,2,1,0),(8,3,1,0);");
        }
        for (Model.Dimension dimension : model.dimensions.values()) {
            if (dimension.members.isEmpty()) {
                text.append("member ").append(dimension.name).append("(12");
                text.append(",3,2,1", 0, 2 * (dimension.levels.size() - 1)).append(");");
            }
        }
        return text.toString();
    }

    private static void add(List<String> tokens, String... more) {
        tokens.addAll(List.of(more));
    }

    private void addColumn(List<String> tokens) {
        if (model.dimensions.isEmpty()) {
            add(tokens, "d0", ".", "l0");
            return;
        }
        Model.Dimension dimension = model.dimension(random.nextInt(model.dimensions.size()));
        add(tokens, dimension.name, ".", dimension.levels.get(random.nextInt(dimension.levels.size())));
    }

    private List<String> question() {
        List<String> groups = new ArrayList<>();
        List<List<String>> columns = new ArrayList<>();
        if (chance(70)) {
            groups(groups, columns);
        }
        List<String> tokens = new ArrayList<>(List.of("select"));
        int items = chance(5) ? 22 + random.nextInt(5) : 1 + random.nextInt(4);
        for (int i = 0; i < items; i++) {
            addItem(tokens, columns);
            add(tokens, ",");
        }
        tokens.remove(tokens.size() - 1);
        if (chance(70)) {
            add(tokens, "where");
            addCondition(tokens, chance(5) ? 58 + random.nextInt(5) : 1 + random.nextInt(8));
        }
        tokens.addAll(groups);
        add(tokens, ";");
        return tokens;
    }

    private void addItem(List<String> tokens, List<List<String>> columns) {
        int type = random.nextInt(6);
        if (type == 0 || type == 5) {
            List<String> column = new ArrayList<>();
            if (columns.isEmpty() || chance(3)) {
                if (chance(90)) {
                    add(tokens, "count", "(", "*", ")");
                    return;
                }
                addColumn(column);
            } else {
                column = columns.get(random.nextInt(columns.size()));
            }
            if (type == 5) {
                add(tokens, "grouping", "(");
            }
            tokens.addAll(column);
            if (type == 5) {
                add(tokens, ")");
            }
        } else if (type == 4 || model.measures.isEmpty()) {
            add(tokens, "count", "(", "*", ")");
        } else {
            String measure = model.measures.get(random.nextInt(model.measures.size()));
            add(tokens, oneOf("sum", "min", "max"), "(", measure, ")");
        }
    }

    private void addCondition(List<String> tokens, int comparisons) {
        if (chance(20)) {
            add(tokens, "not");
            addCondition(tokens, comparisons);
        } else if (chance(25)) {
            int open = chance(4) ? 35 + random.nextInt(8) : 1;
            tokens.addAll(java.util.Collections.nCopies(open, "("));
            addCondition(tokens, comparisons);
            tokens.addAll(java.util.Collections.nCopies(open, ")"));
        } else if (comparisons > 1) {
            int left = 1 + random.nextInt(comparisons - 1);
            addCondition(tokens, left);
            add(tokens, oneOf("and", "or"));
            addCondition(tokens, comparisons - left);
        } else {
            addComparison(tokens);
        }
    }

    private String number() {
        return "" + (chance(95) ? random.nextInt(60) - 10 : random.nextInt());
    }

    private void addComparison(List<String> tokens) {
        addColumn(tokens);
        int kind = random.nextInt(5);
        if (kind == 0) {
            add(tokens, "between", number(), "and", number());
        } else if (kind == 1 || kind == 2) {
            if (kind == 2) {
                add(tokens, "not");
            }
            add(tokens, "in", "(", number());
            int numbers = chance(5) ? 38 + random.nextInt(4) : random.nextInt(5);
            for (int i = 0; i < numbers; i++) {
                add(tokens, ",", number());
            }
            add(tokens, ")");
        } else {
            add(tokens, oneOf("=", "<>", "<", "<=", ">", ">="), number());
        }
    }

    private void groups(List<String> tokens, List<List<String>> columns) {
        add(tokens, "group", "by");
        int groups = 1 + random.nextInt(3);
        for (int i = 0; i < groups; i++) {
            boolean inBrackets = chance(70);
            int size = inBrackets ? 1 + random.nextInt(chance(15) ? 9 : 3) : 1;
            if (inBrackets) {
                add(tokens, oneOf("rollup", "cube"), "(");
            }
            for (int k = 0; k < size; k++) {
                List<String> column = new ArrayList<>();
                for (int tries = 0; tries < 30; tries++) {
                    column.clear();
                    addColumn(column);
                    if (!columns.contains(column) || chance(2)) {
                        break;
                    }
                }
                columns.add(column);
                tokens.addAll(column);
                add(tokens, ",");
            }
            tokens.remove(tokens.size() - 1);
            add(tokens, inBrackets ? ")" : ",");
            if (inBrackets) {
                add(tokens, ",");
            }
        }
        tokens.remove(tokens.size() - 1);
    }

    private void same(String what, Probe.Call call, int exception, Probe.Call due) {
        if (exception == THROWS_ARGUMENT) {
            probe.illegalArgument(what, call);
        } else if (exception == THROWS_STATE) {
            probe.illegalState(what, call);
        } else {
            probe.due(what, call.answer(), due.answer());
        }
    }

    private void askAll() {
        probe.due("dimensions", reader.count(0), model.dimensions.size());
        probe.due("measures", reader.count(1), model.measures.size());
        probe.due("bytes", reader.count(2), 0);
        askQuestion();
        for (int i = 0; i < 12; i++) {
            askName(random.nextInt(50) - 1, random.nextInt(5) - 1);
            askMember(random.nextInt(10) - 1, random.nextInt(6) - 1, random.nextInt(14) - 2);
        }
    }

    private void askName(int what, int i) {
        String name = model.name(what);
        same("letter(" + what + ", " + i + ")", () -> reader.letter(what, i),
                name == null || i < 0 ? THROWS_ARGUMENT : 0,
                () -> i < name.length() ? name.charAt(i) : -1);
    }

    private void askMember(int d, int level, int place) {
        boolean isThere = d >= 0 && d < model.dimensions.size();
        Model.Dimension dimension = isThere ? model.dimension(d) : new Model.Dimension("", List.of());
        boolean hasLevel = level >= 0 && level < dimension.levels.size();
        boolean hasPlace = place >= 0 && place < dimension.members.size();
        int state = model.isOpen ? 0 : THROWS_STATE;
        String label = "(" + d + ", " + level + ", " + place + ")";
        same("levels" + label, () -> reader.dimension(d, 0), isThere ? 0 : THROWS_ARGUMENT,
                dimension.levels::size);
        same("members" + label, () -> reader.dimension(d, 1), isThere ? 0 : THROWS_ARGUMENT,
                dimension.members::size);
        same("value" + label, () -> reader.value(d, level, place),
                hasLevel && hasPlace ? 0 : THROWS_ARGUMENT, () -> dimension.members.get(place)[level]);
        same("rank" + label, () -> reader.rank(d, level, place),
                hasLevel && (hasPlace || place == -1) ? state : THROWS_ARGUMENT,
                () -> model.rank(d, level, place));
        int wanted = hasPlace && chance(80) ? dimension.members.get(place)[0] : random.nextInt(50);
        same("find" + label + wanted, () -> reader.find(d, wanted), isThere ? state : THROWS_ARGUMENT,
                () -> {
                    for (int i = 0; i < dimension.members.size(); i++) {
                        if (dimension.members.get(i)[0] == wanted) {
                            return i;
                        }
                    }
                    return -1;
                });
        same("pick" + label, () -> reader.pick(d, place), isThere && hasPlace ? state : THROWS_ARGUMENT,
                () -> {
                    int before = dimension.picked;
                    dimension.picked = place;
                    return before;
                });
    }

    private void askQuestion() {
        Model.Question question = model.question == null ? new Model.Question() : model.question;
        int sets = model.question == null ? 0 : question.sets.size();
        probe.due("items", reader.count(3), question.items.size());
        probe.due("group columns", reader.count(4), question.columns.size());
        probe.due("grouping sets", reader.count(5), sets);
        probe.due("comparisons", reader.count(6), question.comparisons);
        for (int i = -1; i <= 32; i++) {
            int at = i;
            same("type of item " + i, () -> reader.item(at, 0),
                    i >= 0 && i < question.items.size() ? 0 : THROWS_ARGUMENT,
                    () -> question.items.get(at)[0]);
            same("target of item " + i, () -> reader.item(at, 1),
                    i >= 0 && i < question.items.size() ? 0 : THROWS_ARGUMENT,
                    () -> question.items.get(at)[1]);
            same("group column " + i, () -> reader.group(at),
                    i >= 0 && i < question.columns.size() ? 0 : THROWS_ARGUMENT,
                    () -> question.columns.get(at));
            same("grouping set " + i, () -> reader.set(at), i >= 0 && i < sets ? 0 : THROWS_ARGUMENT,
                    () -> question.sets.get(at));
        }
    }

    private void askTruths() {
        for (int i = 0; i < 10; i++) {
            same("holds", () -> reader.holds() ? 1 : 0, model.question == null ? THROWS_STATE : 0,
                    () -> model.question.condition.test(model) ? 1 : 0);
            askMember(random.nextInt(Math.max(1, model.dimensions.size())), 0, random.nextInt(6));
        }
    }
}
