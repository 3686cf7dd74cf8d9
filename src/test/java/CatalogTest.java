/** Promises 6 to 12: open, count, dimension, value, rank, find, letter. */
public final class CatalogTest {
    private static final Probe probe = new Probe();

    public static void main(String[] args) {
        open();
        counts();
        dimension();
        valuesOfNewReader();
        valuesOfOpenReader();
        rank();
        find();
        letter();
        lettersOfWhatIsNotThere();
        manyMembers();
        eightDimensions();
        probe.end();
    }

    private static void open() {
        QuestionReader reader = new QuestionReader();
        probe.due("open: nothing is there", reader.open(), false);
        Probe.run(reader, "measure m;");
        probe.due("open: no dimension", reader.open(), false);
        Probe.run(reader, "dimension a(x);");
        probe.due("open: no member", reader.open(), false);
        Probe.run(reader, "member a(1);dimension b(x);");
        probe.due("open: no member of the last", reader.open(), false);
        probe.due("a reader that did not open takes more", Probe.run(reader, "member b(1);"), 1);
        probe.due("open: all is there", reader.open(), true);
        probe.due("open: it was not new", reader.open(), false);
        probe.fault(reader, 0, Probe.STATE, "^measure k;");
        QuestionReader bare = new QuestionReader();
        Probe.run(bare, "dimension a(x);member a(1);");
        probe.due("open: no measure", bare.open(), false);
        probe.illegalState("still new", () -> bare.find(0, 1));
    }

    private static void counts() {
        QuestionReader reader = Probe.openReader();
        probe.due("dimensions", reader.count(0), 2);
        probe.due("measures", reader.count(1), 2);
        probe.due("bytes", reader.count(2), 0);
        Probe.feed(reader, "select count(*)");
        probe.due("bytes of a fed text", reader.count(2), 15);
        probe.illegalArgument("count(-1)", () -> reader.count(-1));
        probe.illegalArgument("count(7)", () -> reader.count(7));
        probe.illegalArgument("count(MIN)", () -> reader.count(Integer.MIN_VALUE));
    }

    private static void dimension() {
        QuestionReader reader = Probe.openReader();
        probe.due("levels of 0", reader.dimension(0, 0), 3);
        probe.due("members of 0", reader.dimension(0, 1), 4);
        probe.due("levels of 1", reader.dimension(1, 0), 2);
        probe.due("members of 1", reader.dimension(1, 1), 3);
        probe.illegalArgument("dimension(2, 0)", () -> reader.dimension(2, 0));
        probe.illegalArgument("dimension(-1, 0)", () -> reader.dimension(-1, 0));
        probe.illegalArgument("dimension(8, 0)", () -> reader.dimension(8, 0));
        probe.illegalArgument("dimension(0, 2)", () -> reader.dimension(0, 2));
        probe.illegalArgument("dimension(0, -1)", () -> reader.dimension(0, -1));
    }

    private static void valuesOfNewReader() {
        QuestionReader reader = new QuestionReader();
        Probe.run(reader, "dimension a(x,y);member a(5,1),(-2147483648,1),(2147483647,2);");
        int[][] due = {{5, 1}, {Integer.MIN_VALUE, 1}, {Integer.MAX_VALUE, 2}, {0, 2}};
        Probe.run(reader, "member a(0,2);");
        dueValues(reader, 0, due);
        probe.illegalArgument("new: value(0, 0, 4)", () -> reader.value(0, 0, 4));
        probe.illegalArgument("new: value(0, 0, -1)", () -> reader.value(0, 0, -1));
        probe.illegalArgument("new: value(0, 2, 0)", () -> reader.value(0, 2, 0));
        probe.illegalArgument("new: value(0, -1, 0)", () -> reader.value(0, -1, 0));
        probe.illegalArgument("new: value(1, 0, 0)", () -> reader.value(1, 0, 0));
        probe.illegalArgument("new: value(-1, 0, 0)", () -> reader.value(-1, 0, 0));
        Probe.run(reader, "member a(7,3),(8,");
        probe.illegalArgument("new: value of a member that did not come", () -> reader.value(0, 0, 4));
    }

    private static void valuesOfOpenReader() {
        QuestionReader reader = Probe.openReader();
        dueValues(reader, 0, new int[][] {{3, 2, 1}, {4, 8, 2}, {7, 2, 1}, {9, 5, 1}});
        dueValues(reader, 1, new int[][] {{1, 2}, {15, 1}, {31, 1}});
        probe.illegalArgument("value(0, 3, 0)", () -> reader.value(0, 3, 0));
        probe.illegalArgument("value(1, 2, 0)", () -> reader.value(1, 2, 0));
        probe.illegalArgument("value(1, 0, 3)", () -> reader.value(1, 0, 3));
        probe.illegalArgument("value(0, 0, NONE)", () -> reader.value(0, 0, -1));
        probe.illegalArgument("value(2, 0, 0)", () -> reader.value(2, 0, 0));
    }

    private static void dueValues(QuestionReader reader, int d, int[][] due) {
        for (int place = 0; place < due.length; place++) {
            for (int level = 0; level < due[place].length; level++) {
                probe.due("value(" + d + ", " + level + ", " + place + ")",
                        reader.value(d, level, place), due[place][level]);
            }
        }
    }

    private static void rank() {
        QuestionReader reader = Probe.openReader();
        int[][] due = {{0, 0, 0}, {1, 2, 1}, {2, 0, 0}, {3, 1, 0}};
        for (int place = 0; place < 4; place++) {
            for (int level = 0; level < 3; level++) {
                probe.due("rank(0, " + level + ", " + place + ")", reader.rank(0, level, place),
                        due[place][level]);
            }
        }
        probe.due("values at level 0", reader.rank(0, 0, -1), 4);
        probe.due("values at level 1", reader.rank(0, 1, -1), 3);
        probe.due("values at level 2", reader.rank(0, 2, -1), 2);
        probe.due("values at level 1 of 1", reader.rank(1, 1, -1), 2);
        probe.illegalArgument("rank(0, 3, -1)", () -> reader.rank(0, 3, -1));
        probe.illegalArgument("rank(0, 0, 4)", () -> reader.rank(0, 0, 4));
        probe.illegalArgument("rank(0, 0, -2)", () -> reader.rank(0, 0, -2));
        probe.illegalArgument("rank(2, 0, -1)", () -> reader.rank(2, 0, -1));
        probe.illegalArgument("rank(-1, 0, 0)", () -> reader.rank(-1, 0, 0));
        QuestionReader fresh = new QuestionReader();
        Probe.run(fresh, "dimension a(x);member a(1);");
        probe.illegalState("new: rank(0, 0, 0)", () -> fresh.rank(0, 0, 0));
        probe.illegalState("new: rank(0, 0, NONE)", () -> fresh.rank(0, 0, -1));
        probe.illegalArgument("new: rank(0, 0, 1)", () -> fresh.rank(0, 0, 1));
        probe.illegalArgument("new: rank(0, 1, 0)", () -> fresh.rank(0, 1, 0));
        probe.illegalArgument("new: rank(1, 0, -1)", () -> fresh.rank(1, 0, -1));
    }

    private static void find() {
        QuestionReader reader = Probe.openReader();
        probe.due("find 3", reader.find(0, 3), 0);
        probe.due("find 4", reader.find(0, 4), 1);
        probe.due("find 7", reader.find(0, 7), 2);
        probe.due("find 9", reader.find(0, 9), 3);
        probe.due("find 5, which is only at level 1", reader.find(0, 5), -1);
        probe.due("find what is below all", reader.find(0, Integer.MIN_VALUE), -1);
        probe.due("find what is above all", reader.find(0, Integer.MAX_VALUE), -1);
        probe.due("find 31", reader.find(1, 31), 2);
        probe.illegalArgument("find(2, 3)", () -> reader.find(2, 3));
        probe.illegalArgument("find(-1, 3)", () -> reader.find(-1, 3));
        QuestionReader fresh = new QuestionReader();
        Probe.run(fresh, "dimension a(x);member a(1);");
        probe.illegalState("new: find(0, 1)", () -> fresh.find(0, 1));
        probe.illegalArgument("new: find(1, 1)", () -> fresh.find(1, 1));
    }

    private static void letter() {
        String longest = "Z_34567890123456789012345678901234567890";
        QuestionReader reader = new QuestionReader();
        Probe.run(reader, "dimension " + longest + "(a,bb,ccc," + longest + ");dimension q(r);"
                + "measure " + longest + "1;");
        Probe.run(reader, "measure m;measure " + longest.replace('Z', 'z') + ";");
        dueName(reader, 0, longest);
        dueName(reader, 1, "q");
        dueName(reader, 8, "a");
        dueName(reader, 9, "bb");
        dueName(reader, 10, "ccc");
        dueName(reader, 11, longest);
        dueName(reader, 12, "r");
        dueName(reader, 40, "m");
        dueName(reader, 41, longest.replace('Z', 'z'));
        int[] missing = {-1, 2, 7, 13, 15, 16, 39, 42, 47, 48, Integer.MAX_VALUE, Integer.MIN_VALUE};
        for (int what : missing) {
            probe.illegalArgument("letter(" + what + ", 0)", () -> reader.letter(what, 0));
        }
        probe.illegalArgument("letter(0, -1)", () -> reader.letter(0, -1));
        probe.illegalArgument("letter(40, MIN)", () -> reader.letter(40, Integer.MIN_VALUE));
    }

    private static void dueName(QuestionReader reader, int what, String due) {
        for (int i = 0; i < due.length(); i++) {
            probe.due("letter(" + what + ", " + i + ")", reader.letter(what, i), due.charAt(i));
        }
        probe.due("behind name " + what, reader.letter(what, due.length()), -1);
        probe.due("far behind name " + what, reader.letter(what, Integer.MAX_VALUE), -1);
    }

    private static void lettersOfWhatIsNotThere() {
        QuestionReader reader = new QuestionReader();
        Probe.run(reader, "dimension first(one,two,three)");
        probe.illegalArgument("name of no dimension", () -> reader.letter(0, 0));
        probe.illegalArgument("name of no level", () -> reader.letter(8, 0));
        Probe.run(reader, "measure first,");
        probe.illegalArgument("name of no measure", () -> reader.letter(40, 0));
        Probe.run(reader, "dimension d(e);");
        dueName(reader, 0, "d");
        dueName(reader, 8, "e");
        probe.illegalArgument("name of a level that was not kept", () -> reader.letter(9, 0));
        probe.due("a name that was not kept is free", Probe.run(reader, "measure first;"), 1);
        Probe.run(reader, "dimension first(x);dimension g(x);");
        dueName(reader, 40, "first");
        probe.illegalArgument("nothing behind a fault", () -> reader.letter(1, 0));
    }

    private static void eightDimensions() {
        QuestionReader reader = new QuestionReader();
        for (int d = 0; d < 8; d++) {
            probe.due("dimension " + d, Probe.run(reader, "dimension d" + d + "(w,x,y,z" + d + ");measure m"
                    + d + ";member d" + d + "(" + d + ",2,3,4),(-5,6,7,8);"), 3);
        }
        probe.due("opens", reader.open(), true);
        for (int d = 0; d < 8; d++) {
            dueName(reader, d, "d" + d);
            dueName(reader, 11 + 4 * d, "z" + d);
            dueName(reader, 40 + d, "m" + d);
            dueValues(reader, d, new int[][] {{-5, 6, 7, 8}, {d, 2, 3, 4}});
            probe.due("pick of " + d, reader.pick(d, 1), 0);
        }
        probe.right(reader, 1, "select d7.z7, max(m7) where d7.w = 7 and d7.z7 = 4 group by d7.z7;");
        probe.due("the last column", reader.group(0), 31);
        probe.due("the last measure", reader.item(1, 1), 7);
        probe.due("its condition", reader.holds(), true);
    }

    private static void manyMembers() {
        QuestionReader reader = new QuestionReader();
        StringBuilder text = new StringBuilder("dimension a(x,y);measure m;member a");
        for (int i = 0; i < 1000; i++) {
            int value = i * 617 % 1000;
            text.append(i == 0 ? "(" : ",(").append(value).append(',').append(value / 7).append(')');
        }
        probe.due("a thousand members", Probe.run(reader, text + ";"), 3);
        probe.due("in the order in which they came", reader.value(0, 0, 1), 617);
        probe.due("opens", reader.open(), true);
        probe.due("values at level 0", reader.rank(0, 0, -1), 1000);
        probe.due("values at level 1", reader.rank(0, 1, -1), 143);
        for (int i = 0; i < 1000; i++) {
            probe.due("value at " + i, reader.value(0, 0, i), i);
            probe.due("value above " + i, reader.value(0, 1, i), i / 7);
            probe.due("rank above " + i, reader.rank(0, 1, i), i / 7);
            probe.due("find " + i, reader.find(0, i), i);
        }
        probe.due("find 1000", reader.find(0, 1000), -1);
    }
}
