import java.nio.charset.StandardCharsets;

/** What the tests share: feeding texts, comparing answers, telling what was wrong. */
final class Probe {
    /** The catalog that most tests use: shop has three levels, day has two. */
    static final String CATALOG = "dimension shop(store,city,land);dimension day(day,month);"
            + "measure price;measure n;"
            + "member shop(7,2,1),(3,2,1),(9,5,1),(4,8,2);member day(31,1),(1,2),(15,1);";

    static final int SIGN = 1;
    static final int NUMBER = 2;
    static final int END = 3;
    static final int OTHER = 4;
    static final int NAME = 5;
    static final int TAKEN = 6;
    static final int MANY = 7;
    static final int STATE = 8;
    static final int KEY = 9;
    static final int TWICE = 10;
    static final int GROUP = 11;

    interface Call {
        long answer();
    }

    private int asked;
    private int wrong;

    static QuestionReader openReader() {
        QuestionReader reader = new QuestionReader();
        feed(reader, CATALOG);
        if (reader.run() != 6 || !reader.open()) {
            System.out.println("the catalog of the tests is not taken");
            System.exit(1);
        }
        return reader;
    }

    static void feed(QuestionReader reader, String text) {
        feed(reader, text.getBytes(StandardCharsets.ISO_8859_1));
    }

    /** Fills the last call up with bytes that would be faults, were they not trimmed. */
    static void feed(QuestionReader reader, byte[] text) {
        for (int at = 0; at < text.length; at += 20) {
            int[] five = new int[5];
            for (int i = 0; i < 20; i++) {
                int letter = at + i < text.length ? text[at + i] & 255 : '#';
                five[i / 4] = five[i / 4] << 8 | letter;
            }
            reader.feed(five[0], five[1], five[2], five[3], five[4]);
        }
        reader.trim((20 - text.length % 20) % 20);
    }

    static int run(QuestionReader reader, String text) {
        feed(reader, text);
        return reader.run();
    }

    void due(String what, long got, long want) {
        asked++;
        if (got != want) {
            wrong++;
            System.out.println(what + " answered " + got + ", due is " + want);
        }
    }

    void due(String what, boolean got, boolean want) {
        due(what, got ? 1 : 0, want ? 1 : 0);
    }

    void illegalArgument(String what, Call call) {
        illegal(what, call, IllegalArgumentException.class);
    }

    void illegalState(String what, Call call) {
        illegal(what, call, IllegalStateException.class);
    }

    private void illegal(String what, Call call, Class<?> want) {
        asked++;
        String got;
        try {
            got = "answered " + call.answer();
        } catch (RuntimeException e) {
            if (e.getClass() == want) {
                return;
            }
            got = "threw " + e;
        }
        wrong++;
        System.out.println(what + " " + got + ", due is " + want.getSimpleName());
    }

    /** Runs a text in which a ^ (which is not fed) stands before the place of the fault. */
    void fault(QuestionReader reader, int carriedOut, int kind, String marked) {
        int place = marked.indexOf('^');
        String text = place < 0 ? marked : marked.substring(0, place) + marked.substring(place + 1);
        String label = marked.length() > 150 ? marked.substring(0, 150) + " .." : marked;
        due("run of: " + label, run(reader, text), carriedOut);
        due("kind of fault of: " + label, reader.fault(0), kind);
        due("place of fault of: " + label, reader.fault(1), kind == 0 ? QuestionReader.NONE : place);
    }

    /** Runs a text that is right. */
    void right(QuestionReader reader, int carriedOut, String text) {
        fault(reader, carriedOut, 0, text);
    }

    void end() {
        System.out.println(asked + " answers asked, " + wrong + " wrong");
        if (wrong != 0 || asked == 0) {
            System.exit(1);
        }
    }
}
