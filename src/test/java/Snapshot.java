import java.util.ArrayList;
import java.util.List;

/** All that can be asked of a reader, as lines; of long rows their beginning and their end alone. */
final class Snapshot {
    private static final int SAMPLE = 5;

    private final QuestionReader reader;
    private final List<String> lines = new ArrayList<>();

    private Snapshot(QuestionReader reader) {
        this.reader = reader;
    }

    /** The text is run at the end: that is the one way to see its bytes. */
    static List<String> of(QuestionReader reader) {
        Snapshot snapshot = new Snapshot(reader);
        snapshot.askFault();
        snapshot.askState();
        snapshot.ask("run of the text that was left", reader::run);
        snapshot.askFault();
        snapshot.askCounts();
        return snapshot.lines;
    }

    static List<String> withoutFault(QuestionReader reader) {
        Snapshot snapshot = new Snapshot(reader);
        snapshot.askState();
        return snapshot.lines;
    }

    private void askState() {
        askCounts();
        askNames();
        for (int d = 0; d < count(0); d++) {
            askDimension(d);
        }
        askQuestion();
    }

    private void askFault() {
        ask("fault(0)", () -> reader.fault(0));
        ask("fault(1)", () -> reader.fault(1));
    }

    private void askCounts() {
        for (int what = 0; what <= 6; what++) {
            int asked = what;
            ask("count(" + what + ")", () -> reader.count(asked));
        }
    }

    private void askNames() {
        for (int what = 0; what < 48; what++) {
            for (int i = 0; i < 40; i = i < SAMPLE ? i + 1 : i + 34) {
                int letter = i;
                int asked = what;
                long got = ask("letter(" + what + ", " + i + ")", () -> reader.letter(asked, letter));
                if (got < 0) {
                    break;
                }
            }
        }
    }

    private void askDimension(int d) {
        int levels = reader.dimension(d, 0);
        int members = reader.dimension(d, 1);
        lines.add("levels of " + d + ": " + levels);
        lines.add("members of " + d + ": " + members);
        for (int level = 0; level < levels; level++) {
            int at = level;
            ask("rank(" + d + ", " + level + ", NONE)", () -> reader.rank(d, at, -1));
            for (int place = 0; place < members; place = next(place, members)) {
                int member = place;
                String label = "(" + d + ", " + level + ", " + place + ")";
                ask("value" + label, () -> reader.value(d, at, member));
                ask("rank" + label, () -> reader.rank(d, at, member));
            }
        }
        for (int place = 0; place < members; place = next(place, members)) {
            int value = reader.value(d, 0, place);
            ask("find(" + d + ", " + value + ")", () -> reader.find(d, value));
        }
        long picked = ask("pick of " + d, () -> reader.pick(d, 0));
        if (picked > 0) {
            reader.pick(d, (int) picked);
        }
    }

    private static int next(int place, int members) {
        return place >= SAMPLE && place < members - 1 ? members - 1 : place + 1;
    }

    private void askQuestion() {
        for (int i = 0; i < count(3); i++) {
            int asked = i;
            ask("item(" + i + ", 0)", () -> reader.item(asked, 0));
            ask("item(" + i + ", 1)", () -> reader.item(asked, 1));
        }
        for (int k = 0; k < count(4); k++) {
            int asked = k;
            ask("group(" + k + ")", () -> reader.group(asked));
        }
        for (int i = 0; i < count(5); i++) {
            int asked = i;
            ask("set(" + i + ")", () -> reader.set(asked));
        }
        ask("holds()", () -> reader.holds() ? 1 : 0);
    }

    private int count(int what) {
        return reader.count(what);
    }

    /** The answer; -2 if the call threw. */
    private long ask(String label, Probe.Call call) {
        try {
            long got = call.answer();
            lines.add(label + " " + got);
            return got;
        } catch (IllegalArgumentException | IllegalStateException e) {
            lines.add(label + " throws " + e.getClass().getSimpleName());
            return -2;
        }
    }
}
