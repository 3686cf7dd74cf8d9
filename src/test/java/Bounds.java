import java.util.List;

/**
 * Cases at a bound, each on a reader of its own. What is refused is held against a twin that was made
 * in the same way and not asked: both must answer everything alike.
 */
final class Bounds {
    interface Maker {
        QuestionReader make();
    }

    interface Ask {
        long of(QuestionReader reader);
    }

    static final Maker FRESH = QuestionReader::new;
    static final Maker OPEN = Probe::openReader;

    private static final int[] FAR = {Integer.MIN_VALUE, Integer.MAX_VALUE};

    private final Probe probe = new Probe();
    private String sentence = "";

    /** The document's words that the cases from here on are about; told with each wrong answer. */
    void sentence(String words) {
        sentence = "\"" + words + "\": ";
    }

    /** A reader that was told these statements, all of which are right. */
    static Maker told(String text) {
        return () -> {
            QuestionReader reader = new QuestionReader();
            Probe.run(reader, text);
            if (reader.fault(0) != 0) {
                throw new AssertionError("a fault in what a test is made of: " + text);
            }
            return reader;
        };
    }

    static Maker opened(String text) {
        return () -> {
            QuestionReader reader = told(text).make();
            if (!reader.open()) {
                throw new AssertionError("does not open: " + text);
            }
            return reader;
        };
    }

    static Maker with(Maker maker, String text) {
        return () -> {
            QuestionReader reader = maker.make();
            Probe.run(reader, text);
            return reader;
        };
    }

    static Maker fed(Maker maker, String text) {
        return () -> {
            QuestionReader reader = maker.make();
            Probe.feed(reader, text);
            return reader;
        };
    }

    void answers(String what, Maker maker, long due, Ask ask) {
        probe.due(sentence + what, ask.of(maker.make()), due);
    }

    void answers(String what, Maker maker, boolean due, Ask ask) {
        answers(what, maker, due ? 1 : 0, ask);
    }

    void argument(String what, Maker maker, Ask ask) {
        QuestionReader reader = maker.make();
        probe.illegalArgument(sentence + what, () -> ask.of(reader));
        same(what, Snapshot.of(reader), Snapshot.of(maker.make()));
    }

    void state(String what, Maker maker, Ask ask) {
        QuestionReader reader = maker.make();
        probe.illegalState(sentence + what, () -> ask.of(reader));
        same(what, Snapshot.of(reader), Snapshot.of(maker.make()));
    }

    /** A call that answers, and must not change anything. */
    void leaves(String what, Maker maker, long due, Ask ask) {
        QuestionReader reader = maker.make();
        probe.due(sentence + what, ask.of(reader), due);
        same(what, Snapshot.of(reader), Snapshot.of(maker.make()));
    }

    interface AskOne {
        long of(QuestionReader reader, int number);
    }

    /** A number that may be low .. high: it is refused just below, just above and far off. */
    void argumentOutside(String what, Maker maker, int low, int high, AskOne ask) {
        int[] near = {low - 1, high + 1};
        for (int number : near) {
            argument(what + " with " + number, maker, reader -> ask.of(reader, number));
        }
        for (int number : FAR) {
            argument(what + " with " + number, maker, reader -> ask.of(reader, number));
        }
    }

    /** A text that is right, whole. */
    void right(Maker maker, int carriedOut, String text) {
        QuestionReader reader = maker.make();
        String label = sentence + shortened(text);
        probe.due(label + " run", Probe.run(reader, text), carriedOut);
        probe.due(label + " kind of fault", reader.fault(0), 0);
        probe.due(label + " place of fault", reader.fault(1), QuestionReader.NONE);
        probe.due(label + " bytes left", reader.count(2), 0);
    }

    /** A text with a fault, whose place is told and not marked. */
    void fault(Maker maker, int kind, int place, String text) {
        QuestionReader reader = maker.make();
        Probe.run(reader, text);
        String label = sentence + shortened(text);
        probe.due(label + " kind of fault", reader.fault(0), kind);
        probe.due(label + " place of fault", reader.fault(1), place);
    }

    void faulty(Maker maker, int kind, String marked) {
        faulty(maker, 0, "", kind, marked);
    }

    /**
     * Statements that are right and one that is not, in which a ^ (which is not fed) stands before the
     * place of the fault: the reader must end as a twin that was told the right ones alone.
     */
    void faulty(Maker maker, int carriedOut, String before, int kind, String marked) {
        QuestionReader reader = maker.make();
        String label = sentence + shortened(before + marked);
        int place = before.length() + marked.indexOf('^');
        probe.due(label + " run", Probe.run(reader, before + marked.replace("^", "")), carriedOut);
        probe.due(label + " kind of fault", reader.fault(0), kind);
        probe.due(label + " place of fault", reader.fault(1), place);
        QuestionReader twin = maker.make();
        Probe.run(twin, before);
        same(shortened(before + marked), Snapshot.withoutFault(reader), Snapshot.withoutFault(twin));
    }

    void end() {
        probe.end();
    }

    private void same(String what, List<String> got, List<String> due) {
        int at = 0;
        while (at < got.size() && at < due.size() && got.get(at).equals(due.get(at))) {
            at++;
        }
        boolean isSame = got.size() == due.size() && at == got.size();
        String first = at < got.size() ? got.get(at) : "fewer answers";
        probe.due(sentence + what + " changes nothing (" + first + ")", isSame, true);
    }

    private static String shortened(String text) {
        int length = text.length();
        return length > 120 ? text.substring(0, 60) + " .. " + text.substring(length - 50) : text;
    }
}
