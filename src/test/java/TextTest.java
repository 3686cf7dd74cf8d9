/** Promises 1 to 4: a new object, feed, trim, run. */
public final class TextTest {
    private static final Probe probe = new Probe();

    public static void main(String[] args) {
        newObject();
        feed();
        feedBytesInOrder();
        feedFull();
        trim();
        run();
        textIsUsedUp();
        probe.end();
    }

    private static void newObject() {
        probe.due("NONE", QuestionReader.NONE, -1);
        QuestionReader reader = new QuestionReader();
        for (int what = 0; what <= 6; what++) {
            probe.due("new: count " + what, reader.count(what), 0);
        }
        probe.due("new: kind of fault", reader.fault(0), 0);
        probe.due("new: place of fault", reader.fault(1), -1);
        probe.illegalArgument("new: dimension(0, 0)", () -> reader.dimension(0, 0));
        probe.illegalArgument("new: letter(0, 0)", () -> reader.letter(0, 0));
        probe.illegalArgument("new: letter(8, 0)", () -> reader.letter(8, 0));
        probe.illegalArgument("new: letter(40, 0)", () -> reader.letter(40, 0));
        probe.illegalArgument("new: item(0, 0)", () -> reader.item(0, 0));
        probe.illegalArgument("new: group(0)", () -> reader.group(0));
        probe.illegalArgument("new: set(0)", () -> reader.set(0));
        probe.illegalState("new: holds()", () -> reader.holds() ? 1 : 0);
        probe.due("new: open", reader.open(), false);
        probe.due("new: run", reader.run(), 0);
        probe.right(reader, 1, "measure m;");
    }

    private static void feed() {
        QuestionReader reader = new QuestionReader();
        probe.due("feed 1", reader.feed(0, 0, 0, 0, 0), 20);
        probe.due("feed 2", reader.feed(-1, -1, -1, -1, -1), 40);
        probe.due("fed bytes", reader.count(2), 40);
    }

    private static void feedBytesInOrder() {
        QuestionReader reader = new QuestionReader();
        reader.feed(0x6d656173, 0x75726520, 0x41425f39, 0x797a3b20, 0x090a0d20);
        probe.due("measure AB_9yz;", reader.run(), 1);
        String name = "AB_9yz";
        for (int i = 0; i < name.length(); i++) {
            probe.due("letter " + i, reader.letter(40, i), name.charAt(i));
        }
        probe.due("behind the name", reader.letter(40, name.length()), -1);
    }

    private static void feedFull() {
        QuestionReader reader = new QuestionReader();
        for (int i = 1; i <= 3276; i++) {
            probe.due("feed " + i, reader.feed(0x20202020, 0x20202020, 0x20202020, 0x20202020,
                    0x20202020), 20 * i);
        }
        probe.illegalState("feed of a full text", () -> reader.feed(0, 0, 0, 0, 0));
        probe.due("a full text stays", reader.count(2), 65520);
        probe.due("trim of a full text", reader.trim(3), 65517);
        probe.illegalState("feed of one too many", () -> reader.feed(0, 0, 0, 0, 0));
        probe.due("trim to what just fits", reader.trim(1), 65516);
        probe.due("feed of what just fits", reader.feed(0x20202020, 0x20202020, 0x20202020,
                0x20202020, 0x2020203b), 65536);
        probe.illegalState("feed behind the last byte", () -> reader.feed(0, 0, 0, 0, 0));
        probe.due("run of the longest text", reader.run(), 0);
        probe.due("fault of the longest text", reader.fault(0), Probe.OTHER);
        probe.due("its place", reader.fault(1), 65535);
        probe.due("feed again", reader.feed(0, 0, 0, 0, 0), 20);
    }

    private static void trim() {
        QuestionReader reader = new QuestionReader();
        probe.due("trim(0) of nothing", reader.trim(0), 0);
        probe.illegalArgument("trim(1) of nothing", () -> reader.trim(1));
        reader.feed(0x6d656173, 0x75726520, 0x6162633b, 0x6d656173, 0x75726520);
        probe.illegalArgument("trim(-1)", () -> reader.trim(-1));
        probe.illegalArgument("trim(21)", () -> reader.trim(21));
        probe.illegalArgument("trim(MIN)", () -> reader.trim(Integer.MIN_VALUE));
        probe.illegalArgument("trim(MAX)", () -> reader.trim(Integer.MAX_VALUE));
        probe.due("wrong trims change nothing", reader.count(2), 20);
        probe.due("trim(8)", reader.trim(8), 12);
        probe.illegalArgument("trim(13) of 12", () -> reader.trim(13));
        probe.due("run behind trim", reader.run(), 1);
        probe.due("no fault behind trim", reader.fault(0), 0);
        reader.feed(0, 0, 0, 0, 0);
        reader.feed(0, 0, 0, 0, 0);
        probe.illegalArgument("trim(21) of 40", () -> reader.trim(21));
        probe.due("trim(20) of 40", reader.trim(20), 20);
        probe.due("trim(20) of 20", reader.trim(20), 0);
    }

    private static void run() {
        QuestionReader reader = new QuestionReader();
        probe.due("run of nothing", reader.run(), 0);
        probe.due("two statements", Probe.run(reader, "measure a;measure b;"), 2);
        probe.due("blanks all over", Probe.run(reader, "\t\r\n measure\nc\t;\r"), 1);
        probe.due("up to the fault", Probe.run(reader, "measure d;measure e;measure a;measure f;"), 2);
        probe.due("what was before it stays", reader.count(1), 5);
        probe.due("no blanks where none are needed",
                Probe.run(reader, "dimension q(x);member q(1),(2);"), 2);
        probe.due("blanks where none are needed",
                Probe.run(reader, " member q ( 3 ) , ( -4 ) ; "), 1);
        probe.due("members of both", reader.dimension(0, 1), 4);
    }

    private static void textIsUsedUp() {
        QuestionReader reader = new QuestionReader();
        Probe.run(reader, "measure a");
        probe.due("bytes behind a fault", reader.count(2), 0);
        probe.due("the next text begins anew", Probe.run(reader, "measure b;"), 1);
        probe.due("no bytes are left", reader.count(2), 0);
        probe.due("run of no text", reader.run(), 0);
        probe.due("no fault of no text", reader.fault(0), 0);
    }
}
