import java.util.ArrayList;
import java.util.LinkedHashMap;
import java.util.List;
import java.util.Map;
import java.util.Set;
import java.util.TreeSet;
import java.util.function.Predicate;

/**
 * The document once more, written as plainly as the whole Java library allows: by recursion, lists and
 * an exception for the first fault. It shares no code with the class that it is held against.
 */
final class Model {
    private static final Set<String> RESERVED = Set.of("dimension", "measure", "member", "select",
            "where", "group", "by", "rollup", "cube", "grouping", "sum", "count", "min", "max", "and",
            "or", "not", "between", "in");
    private static final List<String> AGGREGATES = List.of("", "sum", "min", "max", "count", "grouping");
    private static final List<String> RELATIONS = List.of("=", "<>", "<", "<=", ">", ">=");

    static final class Dimension {
        final String name;
        final List<String> levels;
        List<int[]> members = new ArrayList<>();
        int picked;

        Dimension(String name, List<String> levels) {
            this.name = name;
            this.levels = levels;
        }
    }

    static final class Question {
        final List<int[]> items = new ArrayList<>();
        final List<Integer> columns = new ArrayList<>();
        List<Integer> sets = new ArrayList<>(List.of(0));
        Predicate<Model> condition = model -> true;
        int comparisons;
    }

    private static final class Fault extends Exception {
        private static final long serialVersionUID = 1L;
        final int kind;
        final int place;

        Fault(int kind, int place) {
            super(null, null, false, false);
            this.kind = kind;
            this.place = place;
        }
    }

    final Map<String, Dimension> dimensions = new LinkedHashMap<>();
    final List<String> measures = new ArrayList<>();
    boolean isOpen;
    Question question;
    int faultKind;
    int faultPlace = -1;

    private String text;
    private int start;
    private int end;
    private String token;
    private boolean isNumber;

    int run(String newText) {
        text = newText;
        end = 0;
        question = null;
        faultKind = 0;
        faultPlace = -1;
        int done = 0;
        try {
            next();
            while (!token.isEmpty()) {
                statement();
                done++;
                next();
            }
        } catch (Fault fault) {
            faultKind = fault.kind;
            faultPlace = fault.place;
        }
        return done;
    }

    boolean open() {
        boolean can = !isOpen && !dimensions.isEmpty() && !measures.isEmpty();
        for (Dimension dimension : dimensions.values()) {
            can &= !dimension.members.isEmpty();
        }
        if (can) {
            isOpen = true;
            for (Dimension dimension : dimensions.values()) {
                dimension.members.sort((one, other) -> Integer.compare(one[0], other[0]));
            }
        }
        return can;
    }

    Dimension dimension(int d) {
        return new ArrayList<>(dimensions.values()).get(d);
    }

    String name(int what) {
        if (what >= 40) {
            return what - 40 < measures.size() ? measures.get(what - 40) : null;
        }
        int d = what >= 8 ? (what - 8) / 4 : what;
        if (d < 0 || d >= dimensions.size()) {
            return null;
        }
        List<String> levels = dimension(d).levels;
        if (what < 8) {
            return dimension(d).name;
        }
        return (what - 8) % 4 < levels.size() ? levels.get((what - 8) % 4) : null;
    }

    int rank(int d, int level, int place) {
        TreeSet<Integer> values = new TreeSet<>();
        for (int[] member : dimension(d).members) {
            values.add(member[level]);
        }
        return place < 0 ? values.size() : values.headSet(dimension(d).members.get(place)[level]).size();
    }

    private void next() throws Fault {
        while (end < text.length() && "\t\n\r ".indexOf(text.charAt(end)) >= 0) {
            end++;
        }
        start = end;
        String rest = text.substring(start);
        isNumber = false;
        if (rest.isEmpty()) {
            token = "";
            return;
        }
        if (rest.matches("(?s)[a-zA-Z].*")) {
            token = rest.replaceFirst("(?s)^([a-zA-Z][a-zA-Z0-9_]*).*$", "$1");
        } else if (rest.matches("(?s)-?[0-9].*")) {
            token = rest.replaceFirst("(?s)^(-?[0-9]+).*$", "$1");
            isNumber = true;
            if (new java.math.BigInteger(token).bitLength() > 31) {
                throw new Fault(Probe.NUMBER, start);
            }
        } else if (rest.matches("(?s)(<=|>=|<>).*")) {
            token = rest.substring(0, 2);
        } else if ("(),;.*=<>".indexOf(rest.charAt(0)) >= 0) {
            token = rest.substring(0, 1);
        } else {
            throw new Fault(Probe.SIGN, start);
        }
        end = start + token.length();
    }

    private Fault other() {
        return token.isEmpty() ? new Fault(Probe.END, text.length()) : new Fault(Probe.OTHER, start);
    }

    private Fault here(int kind) {
        return new Fault(kind, start);
    }

    private boolean isWord() {
        return !token.isEmpty() && Character.isLetter(token.charAt(0));
    }

    private void skip(String due) throws Fault {
        if (!token.equals(due)) {
            throw other();
        }
        next();
    }

    private void need(String due) throws Fault {
        if (!token.equals(due)) {
            throw other();
        }
    }

    private int number() throws Fault {
        if (!isNumber) {
            throw other();
        }
        return Integer.parseInt(token);
    }

    private String name() throws Fault {
        if (!isWord()) {
            throw other();
        }
        if (RESERVED.contains(token) || token.length() > 40) {
            throw here(Probe.NAME);
        }
        return token;
    }

    private String nameOf(Iterable<String> known) throws Fault {
        String name = name();
        for (String one : known) {
            if (one.equals(name)) {
                return name;
            }
        }
        throw here(Probe.NAME);
    }

    private void statement() throws Fault {
        String word = token;
        if (!List.of("dimension", "measure", "member", "select").contains(word)) {
            throw other();
        }
        if (word.equals("select") != isOpen) {
            throw here(Probe.STATE);
        }
        next();
        switch (word) {
            case "dimension":
                newDimension();
                break;
            case "measure":
                String measure = newName(measures.size());
                next();
                need(";");
                measures.add(measure);
                break;
            case "member":
                newMembers();
                break;
            default:
                select();
        }
    }

    private String newName(int already) throws Fault {
        String name = name();
        if (dimensions.containsKey(name) || measures.contains(name)) {
            throw here(Probe.TAKEN);
        }
        if (already == 8) {
            throw here(Probe.MANY);
        }
        return name;
    }

    private void newDimension() throws Fault {
        String name = newName(dimensions.size());
        List<String> levels = new ArrayList<>();
        next();
        need("(");
        do {
            next();
            if (levels.contains(name())) {
                throw here(Probe.TAKEN);
            }
            if (levels.size() == 4) {
                throw here(Probe.MANY);
            }
            levels.add(token);
            next();
        } while (token.equals(","));
        skip(")");
        need(";");
        dimensions.put(name, new Dimension(name, levels));
    }

    private void newMembers() throws Fault {
        Dimension dimension = dimensions.get(nameOf(dimensions.keySet()));
        List<int[]> all = new ArrayList<>(dimension.members);
        do {
            next();
            need("(");
            int place = start;
            if (all.size() == 1000) {
                throw here(Probe.MANY);
            }
            List<Integer> values = new ArrayList<>();
            do {
                next();
                values.add(number());
                next();
            } while (token.equals(","));
            need(")");
            if (values.size() != dimension.levels.size()) {
                throw new Fault(Probe.MANY, place);
            }
            int[] member = values.stream().mapToInt(i -> i).toArray();
            for (int[] one : all) {
                if (!goTogether(one, member)) {
                    throw new Fault(Probe.KEY, place);
                }
            }
            all.add(member);
            next();
        } while (token.equals(","));
        need(";");
        dimension.members = all;
    }

    private static boolean goTogether(int[] one, int[] other) {
        if (one[0] == other[0]) {
            return false;
        }
        for (int level = 0; level < one.length; level++) {
            for (int above = level; above < one.length; above++) {
                if (one[level] == other[level] && one[above] != other[above]) {
                    return false;
                }
            }
        }
        return true;
    }

    private void select() throws Fault {
        Question draft = new Question();
        List<Integer> places = new ArrayList<>();
        while (true) {
            places.add(start);
            draft.items.add(item(draft.items.size() == 24));
            next();
            if (!token.equals(",")) {
                break;
            }
            next();
        }
        if (token.equals("where")) {
            next();
            draft.condition = or(draft, 0);
        }
        if (token.equals("group")) {
            groups(draft);
        }
        need(";");
        for (int i = 0; i < places.size(); i++) {
            int[] item = draft.items.get(i);
            if (item[0] % 5 == 0 && !draft.columns.contains(item[1])) {
                throw new Fault(Probe.GROUP, places.get(i));
            }
        }
        question = draft;
    }

    private int[] item(boolean isFull) throws Fault {
        int type = AGGREGATES.indexOf(token);
        if (type <= 0) {
            return new int[] {0, column(isFull)};
        }
        if (isFull) {
            throw here(Probe.MANY);
        }
        next();
        skip("(");
        int target = 0;
        if (type == 4) {
            need("*");
        } else if (type == 5) {
            target = column(false);
        } else {
            target = measures.indexOf(nameOf(measures));
        }
        next();
        need(")");
        return new int[] {type, target};
    }

    private int column(boolean isFull) throws Fault {
        String name = nameOf(dimensions.keySet());
        if (isFull) {
            throw here(Probe.MANY);
        }
        next();
        skip(".");
        int d = new ArrayList<>(dimensions.keySet()).indexOf(name);
        List<String> levels = dimensions.get(name).levels;
        return 4 * d + levels.indexOf(nameOf(levels));
    }

    private Predicate<Model> or(Question draft, int open) throws Fault {
        Predicate<Model> left = and(draft, open);
        while (token.equals("or")) {
            next();
            left = left.or(and(draft, open));
        }
        return left;
    }

    private Predicate<Model> and(Question draft, int open) throws Fault {
        Predicate<Model> left = not(draft, open);
        while (token.equals("and")) {
            next();
            left = left.and(not(draft, open));
        }
        return left;
    }

    private Predicate<Model> not(Question draft, int open) throws Fault {
        if (token.equals("not")) {
            next();
            return not(draft, open).negate();
        }
        Predicate<Model> inner;
        if (token.equals("(")) {
            if (open == 40) {
                throw here(Probe.MANY);
            }
            next();
            inner = or(draft, open + 1);
            need(")");
        } else {
            inner = comparison(draft);
        }
        next();
        return inner;
    }

    private int valueAt(int column) {
        Dimension dimension = dimension(column / 4);
        return dimension.members.get(dimension.picked)[column % 4];
    }

    private Predicate<Model> comparison(Question draft) throws Fault {
        int column = column(draft.comparisons == 60);
        draft.comparisons++;
        next();
        String sign = token;
        if (sign.equals("not")) {
            next();
            need("in");
            return list(column).negate();
        }
        if (sign.equals("in")) {
            return list(column);
        }
        if (!sign.equals("between") && !RELATIONS.contains(sign)) {
            throw other();
        }
        next();
        int first = number();
        if (sign.equals("between")) {
            next();
            skip("and");
            int second = number();
            return model -> !(model.valueAt(column) < first) && !(model.valueAt(column) > second);
        }
        return model -> related(sign, Integer.compare(model.valueAt(column), first));
    }

    private static boolean related(String sign, int order) {
        switch (sign) {
            case "=":
                return order == 0;
            case "<>":
                return order != 0;
            case "<":
                return order < 0;
            case "<=":
                return order <= 0;
            case ">":
                return order > 0;
            default:
                return order >= 0;
        }
    }

    private Predicate<Model> list(int column) throws Fault {
        List<Integer> numbers = new ArrayList<>();
        next();
        need("(");
        do {
            next();
            int number = number();
            if (numbers.size() == 40) {
                throw here(Probe.MANY);
            }
            numbers.add(number);
            next();
        } while (token.equals(","));
        need(")");
        return model -> numbers.contains(model.valueAt(column));
    }

    private void groups(Question draft) throws Fault {
        int place = start;
        next();
        need("by");
        do {
            next();
            String shape = token;
            List<Integer> bits = new ArrayList<>();
            if (shape.equals("rollup") || shape.equals("cube")) {
                next();
                need("(");
                do {
                    next();
                    bits.add(groupColumn(draft));
                    next();
                } while (token.equals(","));
                need(")");
            } else {
                bits.add(groupColumn(draft));
            }
            TreeSet<Integer> sets = new TreeSet<>();
            for (int before : draft.sets) {
                for (int choice : choices(shape, bits)) {
                    sets.add(before + choice);
                }
            }
            if (sets.size() > 32) {
                throw new Fault(Probe.MANY, place);
            }
            draft.sets = new ArrayList<>(sets.descendingSet());
            next();
        } while (token.equals(","));
    }

    private static List<Integer> choices(String shape, List<Integer> bits) {
        List<Integer> choices = new ArrayList<>(List.of(0));
        for (int bit : bits) {
            if (shape.equals("cube")) {
                for (int choice : List.copyOf(choices)) {
                    choices.add(choice + bit);
                }
            } else {
                choices.add(choices.get(choices.size() - 1) + bit);
            }
        }
        return shape.equals("cube") || shape.equals("rollup") ? choices : choices.subList(1, 2);
    }

    /** What the column counts in a set's number. */
    private int groupColumn(Question draft) throws Fault {
        int place = start;
        int column = column(draft.columns.size() == 8);
        if (draft.columns.contains(column)) {
            throw new Fault(Probe.TWICE, place);
        }
        draft.columns.add(column);
        return 1 << (draft.columns.size() - 1);
    }
}
