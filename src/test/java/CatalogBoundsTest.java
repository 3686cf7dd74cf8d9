/** The bounds that the document names of dimensions, levels, measures and members; promises 6 to 12. */
public final class CatalogBoundsTest {
    private static final Bounds bounds = new Bounds();
    private static final int MIN = Integer.MIN_VALUE;
    private static final int MAX = Integer.MAX_VALUE;
    /** A new reader with the catalog that the open one of the tests has. */
    private static final Bounds.Maker NEW = Bounds.told(Probe.CATALOG);
    private static final Bounds.Maker[] BOTH = {NEW, Bounds.OPEN};

    public static void main(String[] args) {
        dimensionsAtMostEight();
        levelsOneToFour();
        levelsOfDifferentNames();
        measuresAtMostEight();
        membersAtMostThousand();
        membersOfSeveralStatements();
        valuesAreInts();
        valuesAtLevel0();
        valuesAtHigherLevels();
        membersThatCount();
        tooFewOrTooManyValues();
        allOfThemOrNone();
        listsHaveOneThing();
        takenNames();
        nothingElseIsTaken();
        places();
        openConditions();
        openOnlyOnce();
        countBounds();
        dimensionBounds();
        valueBounds();
        rankBounds();
        rankOfAll();
        rankOfNewReader();
        findBounds();
        findWithoutOne();
        findOfNewReader();
        letterBounds();
        letterBehindTheEnd();
        bounds.end();
    }

    private static String dimensions(int count) {
        StringBuilder text = new StringBuilder();
        for (int d = 0; d < count; d++) {
            text.append("dimension d").append(d).append("(w,x,y,z);");
        }
        return text.toString();
    }

    private static String measures(int count) {
        StringBuilder text = new StringBuilder();
        for (int m = 0; m < count; m++) {
            text.append("measure m").append(m).append(';');
        }
        return text.toString();
    }

    /** Members of one level with the values from .. to - 1. */
    private static String members(int from, int to) {
        StringBuilder text = new StringBuilder("member a");
        for (int value = from; value < to; value++) {
            text.append(value == from ? "(" : ",(").append(value).append(')');
        }
        return text.toString();
    }

    private static void dimensionsAtMostEight() {
        bounds.sentence("DIMENSIONS are 0, 1, .., at most 8");
        bounds.right(Bounds.FRESH, 8, dimensions(8));
        bounds.answers("dimensions", Bounds.told(dimensions(8)), 8, reader -> reader.count(0));
        bounds.answers("levels of the last", Bounds.told(dimensions(8)), 4,
                reader -> reader.dimension(7, 0));
        bounds.right(Bounds.told(dimensions(7)), 1, "dimension last(x);");
        bounds.faulty(Bounds.told(dimensions(8)), Probe.MANY, "dimension ^more(x);");
        bounds.faulty(Bounds.FRESH, 8, dimensions(8), Probe.MANY, "dimension ^more(x);measure m;");
        bounds.right(Bounds.told(dimensions(8)), 2, "measure more;member d7(1,2,3,4);");
    }

    private static void levelsOneToFour() {
        bounds.sentence("LEVELS 0, 1, .. (the finest first), at most 4: A new dimension with its levels (1 to 4)");
        String[] right = {"a", "a,b", "a,b,c", "a,b,c,d"};
        for (int i = 0; i < right.length; i++) {
            String text = "dimension x(" + right[i] + ");";
            bounds.right(Bounds.FRESH, 1, text);
            bounds.answers("levels of " + text, Bounds.told(text), i + 1, reader -> reader.dimension(0, 0));
            int last = i;
            bounds.answers("last level of " + text, Bounds.told(text), 'a' + i,
                    reader -> reader.letter(8 + last, 0));
            bounds.argument("level behind the last of " + text, Bounds.told(text),
                    reader -> reader.letter(9 + last, 0));
        }
        bounds.faulty(Bounds.FRESH, Probe.OTHER, "dimension x(^);");
        bounds.faulty(Bounds.FRESH, Probe.MANY, "dimension x(a,b,c,d,^e);");
        bounds.faulty(Bounds.FRESH, Probe.MANY, "dimension x(a,b,c,d,^e,f,g);");
        bounds.faulty(Bounds.FRESH, Probe.OTHER, "dimension x(a,b,c,d,^);");
        bounds.faulty(Bounds.FRESH, Probe.MANY, "dimension x(a,b,c,d,^x);");
        bounds.faulty(Bounds.told(dimensions(7)), Probe.MANY, "dimension x(a,b,c,d,^e);");
    }

    private static void levelsOfDifferentNames() {
        bounds.sentence("its levels, of which no two have the same name");
        bounds.faulty(Bounds.FRESH, Probe.TAKEN, "dimension x(a,^a);");
        bounds.faulty(Bounds.FRESH, Probe.TAKEN, "dimension x(a,b,^a);");
        bounds.faulty(Bounds.FRESH, Probe.TAKEN, "dimension x(a,b,^b);");
        bounds.faulty(Bounds.FRESH, Probe.TAKEN, "dimension x(a,b,c,^a);");
        bounds.faulty(Bounds.FRESH, Probe.TAKEN, "dimension x(a,b,c,^b);");
        bounds.faulty(Bounds.FRESH, Probe.TAKEN, "dimension x(a,b,c,^c);");
        bounds.right(Bounds.FRESH, 1, "dimension x(a,aa,aaa,A);");
        // What a refused statement has told is forgotten.
        bounds.right(Bounds.with(Bounds.FRESH, "dimension x(a,b,c,c);"), 1, "dimension x(c,b,a);");
        bounds.answers("levels behind a refused one", Bounds.with(Bounds.FRESH,
                "dimension x(a,b,c,c);dimension y(z);"), 0, reader -> reader.count(0));
    }

    private static void measuresAtMostEight() {
        bounds.sentence("MEASURES are 0, 1, .., at most 8");
        bounds.right(Bounds.FRESH, 8, measures(8));
        bounds.answers("measures", Bounds.told(measures(8)), 8, reader -> reader.count(1));
        bounds.answers("letter of the last", Bounds.told(measures(8)), '7', reader -> reader.letter(47, 1));
        bounds.right(Bounds.told(measures(7)), 1, "measure last;");
        bounds.faulty(Bounds.told(measures(8)), Probe.MANY, "measure ^more;");
        bounds.faulty(Bounds.FRESH, 8, measures(8), Probe.MANY, "measure ^more;dimension d(x);");
        bounds.right(Bounds.told(measures(8)), 1, "dimension more(x);");
        bounds.right(Bounds.told(measures(8) + dimensions(8)), 1, "member d7(1,2,3,4);");
    }

    private static void membersAtMostThousand() {
        bounds.sentence("A dimension has MEMBERS, at most 1000");
        Bounds.Maker one = Bounds.told("dimension a(x);");
        bounds.right(one, 1, members(0, 999) + ";");
        bounds.right(one, 1, members(0, 1000) + ";");
        bounds.answers("members", Bounds.with(one, members(0, 1000) + ";"), 1000,
                reader -> reader.dimension(0, 1));
        bounds.answers("the last value", Bounds.with(one, members(0, 1000) + ";"), 999,
                reader -> reader.value(0, 0, 999));
        bounds.argument("a place behind the last", Bounds.with(one, members(0, 1000) + ";"),
                reader -> reader.value(0, 0, 1000));
        bounds.faulty(one, Probe.MANY, members(0, 1000) + ",^(1000);");
        bounds.faulty(one, Probe.MANY, members(0, 1000) + ",^(1000),(1001);");
        bounds.faulty(one, Probe.OTHER, members(0, 1000) + ",^;");
    }

    private static void membersOfSeveralStatements() {
        bounds.sentence("New members of a dimension (that has none, or some, already)");
        Bounds.Maker almost = Bounds.told("dimension a(x);dimension b(x);" + members(0, 999) + ";");
        bounds.right(almost, 1, "member a(999);");
        bounds.right(almost, 1, "member b(999),(5),(3);");
        bounds.faulty(almost, Probe.MANY, "member a(999),^(1000);");
        Bounds.Maker full = Bounds.with(almost, "member a(999);");
        bounds.answers("members of both", full, 1000, reader -> reader.dimension(0, 1));
        bounds.faulty(full, Probe.MANY, "member a^(1000);");
        bounds.faulty(full, Probe.MANY, "member a^(5);");
        bounds.faulty(full, 1, "member b(1000);", Probe.MANY, "member a^(1000);member b(2);");
        bounds.right(full, 2, "member b(1000);measure m;");
    }

    private static void valuesAreInts() {
        bounds.sentence("each has a value (an int) at each level");
        String text = "dimension a(w,x,y,z);measure m;member a(-2147483648,2147483647,-2147483648,2147483647),"
                + "(2147483647,-2147483648,2147483647,-2147483648);";
        int[][] due = {{MIN, MAX, MIN, MAX}, {MAX, MIN, MAX, MIN}};
        for (int place = 0; place < 2; place++) {
            for (int level = 0; level < 4; level++) {
                int p = place;
                int l = level;
                String label = "value at " + level + " of " + place;
                bounds.answers(label, Bounds.told(text), due[place][level], reader -> reader.value(0, l, p));
                bounds.answers(label, Bounds.opened(text), due[place][level], reader -> reader.value(0, l, p));
                bounds.answers("rank: " + label, Bounds.opened(text), due[place][level] == MIN ? 0 : 1,
                        reader -> reader.rank(0, l, p));
            }
        }
    }

    private static void valuesAtLevel0() {
        bounds.sentence("KEY: a member whose value at level 0 another one has");
        Bounds.Maker one = Bounds.told("dimension a(x);member a(1),(2),(3);");
        bounds.right(one, 1, "member a(0),(4),(-1);");
        bounds.faulty(one, Probe.KEY, "member a^(1);");
        bounds.faulty(one, Probe.KEY, "member a^(3);");
        bounds.faulty(one, Probe.KEY, "member a(4),^(2);");
        Bounds.Maker two = Bounds.told("dimension a(x,y);dimension b(x,y);member a(1,7),(2,8);");
        bounds.faulty(two, Probe.KEY, "member a^(1,7);");
        bounds.faulty(two, Probe.KEY, "member a^(1,9);");
        bounds.right(two, 1, "member a(7,1),(8,2),(9,7);");
        bounds.right(two, 1, "member b(1,7),(2,7);");
        Bounds.Maker full = Bounds.told("dimension a(x);" + members(0, 999) + ";");
        bounds.faulty(full, Probe.KEY, "member a^(0);");
        bounds.faulty(full, Probe.KEY, "member a^(998);");
    }

    private static void valuesAtHigherLevels() {
        bounds.sentence("members with the same value at a level have the same ones at all higher levels");
        Bounds.Maker four = Bounds.told("dimension a(w,x,y,z);member a(1,10,100,1000),(2,20,200,2000);");
        String[] right = {"(3,10,100,1000)", "(3,30,100,1000)", "(3,30,300,1000)", "(3,30,300,3000)",
            "(3,20,200,2000)", "(3,30,200,2000)", "(3,30,300,2000)", "(10,100,1000,1)", "(3,1,10,100)"};
        for (String member : right) {
            bounds.right(four, 1, "member a" + member + ";");
        }
        String[] wrong = {"(3,10,100,1001)", "(3,10,101,1000)", "(3,10,101,1001)", "(3,30,100,1001)",
            "(3,10,100,2000)", "(3,10,200,2000)", "(3,20,100,1000)", "(3,30,100,2000)", "(3,30,200,1000)",
            "(3,20,200,1000)"};
        for (String member : wrong) {
            bounds.faulty(four, Probe.KEY, "member a^" + member + ";");
        }
        bounds.faulty(Bounds.told("dimension a(x,y);member a(1,1);dimension b(x,y,z);member b(1,1,1);"),
                Probe.KEY, "member b(2,2,1),(3,1,1),^(4,1,2);");
    }

    private static void membersThatCount() {
        bounds.sentence("members before it in the same statement count");
        Bounds.Maker two = Bounds.told("dimension a(x,y,z);");
        bounds.faulty(two, Probe.KEY, "member a(1,1,1),^(1,1,1);");
        bounds.faulty(two, Probe.KEY, "member a(1,1,1),(2,2,1),^(3,1,2);");
        bounds.faulty(two, Probe.KEY, "member a(1,1,1),(2,2,1),^(3,2,2),(1,1,1);");
        bounds.right(two, 1, "member a(1,1,1),(2,2,1),(3,2,1);");
        bounds.sentence("All of them come, or none: those of a refused statement don't count");
        Bounds.Maker refused = Bounds.with(two, "member a(1,1,1),(2,2,2),(2,2,2);");
        bounds.right(refused, 1, "member a(2,1,2),(1,1,2);");
        bounds.faulty(refused, Probe.KEY, "member a(2,1,2),^(1,1,1);");
    }

    private static void tooFewOrTooManyValues() {
        bounds.sentence("MANY: too few or too many values of a member");
        String[] levels = {"w", "w,x", "w,x,y", "w,x,y,z"};
        for (int count = 1; count <= 4; count++) {
            Bounds.Maker maker = Bounds.told("dimension a(" + levels[count - 1] + ");");
            for (int values = 1; values <= 6; values++) {
                String member = "(" + "5,".repeat(values - 1) + "5)";
                if (values == count) {
                    bounds.right(maker, 1, "member a" + member + ";");
                } else {
                    bounds.faulty(maker, Probe.MANY, "member a^" + member + ";");
                    String fit = "(" + "6,".repeat(count - 1) + "6)";
                    bounds.faulty(maker, Probe.MANY, "member a" + fit + ",^" + member + "," + fit + ";");
                }
            }
            bounds.faulty(maker, Probe.OTHER, "member a(^);");
        }
        bounds.sentence("MANY: at the bracket that begins it, asked at its end bracket");
        Bounds.Maker two = Bounds.told("dimension a(x,y);member a(1,1);");
        bounds.faulty(two, Probe.MANY, "member a^(2)$");
        bounds.faulty(two, Probe.SIGN, "member a(2^$");
        bounds.faulty(two, Probe.OTHER, "member a(2^;");
        bounds.faulty(two, Probe.MANY, "member a^(2,2,2)");
        bounds.faulty(two, Probe.END, "member a(2,2,2^");
        bounds.faulty(two, Probe.OTHER, "member a(2,2,2,^x);");
        bounds.faulty(two, Probe.NUMBER, "member a(2,2,2,2,^2147483648);");
        bounds.faulty(two, Probe.MANY, "member a^(" + "2,".repeat(500) + "2);");
    }

    private static void allOfThemOrNone() {
        bounds.sentence("All of them come, or none");
        Bounds.Maker some = Bounds.told("dimension a(x);dimension b(x);member a(7);");
        bounds.faulty(some, Probe.KEY, "member a(1),(2),^(1);");
        bounds.faulty(some, Probe.MANY, "member a(1),(2),^(3,3);");
        bounds.faulty(some, Probe.OTHER, "member a(1),(2),^;");
        bounds.faulty(some, Probe.END, "member a(1),(2)^");
        bounds.faulty(some, Probe.SIGN, "member a(1),(2)^$;");
        bounds.faulty(some, 1, "member b(1);", Probe.KEY, "member a(1),(2),^(7);");
        bounds.answers("members that came all", Bounds.with(some, "member a(1),(2);"), 3,
                reader -> reader.dimension(0, 1));
    }

    private static void listsHaveOneThing() {
        bounds.sentence("A list, here and below, has one thing at least");
        Bounds.Maker told = Bounds.told("dimension a(x);");
        bounds.faulty(Bounds.FRESH, Probe.OTHER, "dimension a(^);");
        bounds.faulty(told, Probe.OTHER, "member a^;");
        bounds.faulty(told, Probe.OTHER, "member a(^);");
        bounds.faulty(told, Probe.OTHER, "member a(1),^;");
        bounds.faulty(Bounds.OPEN, Probe.OTHER, "select ^;");
        bounds.faulty(Bounds.OPEN, Probe.OTHER, "select count(*),^;");
        bounds.faulty(Bounds.OPEN, Probe.OTHER, "select count(*) where day.day in (^);");
        bounds.faulty(Bounds.OPEN, Probe.OTHER, "select count(*) where day.day not in (^);");
        bounds.faulty(Bounds.OPEN, Probe.OTHER, "select count(*) group by ^;");
        bounds.faulty(Bounds.OPEN, Probe.OTHER, "select count(*) group by rollup(^);");
        bounds.faulty(Bounds.OPEN, Probe.OTHER, "select count(*) group by cube(^);");
        bounds.right(told, 1, "member a(1);");
        bounds.right(Bounds.OPEN, 1, "select count(*) where day.day in (1) group by rollup(day.day);");
    }

    private static void takenNames() {
        bounds.sentence("TAKEN: a new dimension's or measure's name that a dimension or measure has");
        Bounds.Maker told = Bounds.told("dimension a(x);dimension b(x);measure m;measure n;");
        String[] taken = {"a", "b", "m", "n"};
        for (String name : taken) {
            bounds.faulty(told, Probe.TAKEN, "dimension ^" + name + "(x);");
            bounds.faulty(told, Probe.TAKEN, "measure ^" + name + ";");
            bounds.faulty(told, Probe.TAKEN, "dimension ^" + name + " $");
            bounds.faulty(told, Probe.TAKEN, "measure ^" + name);
        }
        bounds.faulty(Bounds.FRESH, 1, "measure x;", Probe.TAKEN, "measure ^x;");
        bounds.faulty(Bounds.told(dimensions(8)), Probe.TAKEN, "measure ^d7;");
        bounds.faulty(Bounds.told(measures(8)), Probe.TAKEN, "dimension ^m7(x);");
    }

    private static void nothingElseIsTaken() {
        bounds.sentence("TAKEN: a level's that a level before it of the same dimension has; nothing else");
        bounds.right(Bounds.FRESH, 1, "dimension a(a);");
        bounds.right(Bounds.FRESH, 1, "dimension a(b,a);");
        Bounds.Maker told = Bounds.told("dimension a(x,y);measure m;");
        bounds.right(told, 1, "dimension b(x,y);");
        bounds.right(told, 1, "dimension b(a,m,b,y);");
        bounds.right(told, 2, "dimension x(y);measure y;");
        bounds.right(told, 1, "measure aa;");
        // Names that a refused statement told are free.
        bounds.right(Bounds.with(told, "dimension b(x"), 1, "measure b;");
        bounds.right(Bounds.with(told, "measure c,"), 1, "dimension c(x);");
        bounds.right(Bounds.with(told, "dimension b(x,y,z,t,u);"), 1, "dimension b(x);");
        bounds.sentence("TAKEN: (before this statement)");
        bounds.right(Bounds.FRESH, 2, "dimension a(a,b);measure b;");
    }

    private static void places() {
        bounds.sentence("where it comes in the order in which members came, then in the order of their values");
        String text = "dimension a(x,y);measure m;member a(5,1),(-2147483648,3);member a(2147483647,2),(-1,4);";
        int[] came = {5, MIN, MAX, -1};
        int[] sorted = {MIN, -1, 5, MAX};
        int[] above = {3, 4, 1, 2};
        for (int place = 0; place < 4; place++) {
            int at = place;
            bounds.answers("new: value at " + place, Bounds.told(text), came[place],
                    reader -> reader.value(0, 0, at));
            bounds.answers("open: value at " + place, Bounds.opened(text), sorted[place],
                    reader -> reader.value(0, 0, at));
            bounds.answers("open: value above " + place, Bounds.opened(text), above[place],
                    reader -> reader.value(0, 1, at));
            bounds.answers("open: find " + sorted[place], Bounds.opened(text), place,
                    reader -> reader.find(0, sorted[at]));
        }
        bounds.answers("one member alone", Bounds.opened("dimension a(x);measure m;member a(9);"), 9,
                reader -> reader.value(0, 0, 0));
    }

    private static void openConditions() {
        bounds.sentence("OPEN from now on, if it was NEW and has a dimension, none without members, and a measure");
        String[] refused = {"", "measure m;", "dimension a(x);", "dimension a(x);measure m;",
            "dimension a(x);member a(3),(1),(2);",
            "dimension a(x);dimension b(x);measure m;member a(3),(1),(2);",
            "dimension a(x);dimension b(x);measure m;member b(3),(1),(2);",
            dimensions(8) + "measure m;member d0(1,1,1,1);member d7(1,1,1,1);"};
        for (String text : refused) {
            bounds.leaves("open of " + text, Bounds.told(text), 0, reader -> reader.open() ? 1 : 0);
            Bounds.Maker asked = () -> {
                QuestionReader reader = Bounds.told(text).make();
                reader.open();
                return reader;
            };
            bounds.faulty(asked, Probe.STATE, "^select count(*);");
            bounds.right(asked, 1, "measure more;");
            bounds.right(asked, 1, text.contains("dimension d7") ? "member d6(1,1,1,1);" : "dimension c(x);");
        }
        String[] opened = {"dimension a(x);measure m;member a(1);",
            "dimension a(x);dimension b(x);measure m;member b(1);member a(1);measure n;"};
        for (String text : opened) {
            bounds.answers("open of " + text, Bounds.told(text), true, reader -> reader.open() ? 1 : 0);
            bounds.right(Bounds.opened(text), 1, "select count(*);");
            bounds.faulty(Bounds.opened(text), Probe.STATE, "^measure k;");
            bounds.faulty(Bounds.told(text), Probe.STATE, "^select count(*);");
        }
        bounds.answers("a thousand members", Bounds.told("dimension a(x);measure m;" + members(0, 1000) + ";"),
                true, reader -> reader.open() ? 1 : 0);
    }

    private static void openOnlyOnce() {
        bounds.sentence("whether it was so");
        bounds.leaves("a second time", Bounds.OPEN, 0, reader -> reader.open() ? 1 : 0);
        bounds.answers("a second time leaves it open", Bounds.OPEN, 1, reader -> {
            reader.open();
            return Probe.run(reader, "select count(*);");
        });
        bounds.answers("a second time leaves the pick", Bounds.OPEN, 2, reader -> {
            reader.pick(0, 2);
            reader.open();
            return reader.pick(0, 0);
        });
        bounds.answers("a second time leaves the question", Bounds.with(Bounds.OPEN, "select count(*);"), 1,
                reader -> (reader.open() ? 100 : 0) + reader.count(3));
    }

    private static void countBounds() {
        bounds.sentence("count: Illegal argument: what is none of these");
        bounds.argumentOutside("count", Bounds.FRESH, 0, 6, QuestionReader::count);
        bounds.argumentOutside("count", Bounds.with(Bounds.OPEN, "select sum(n) where day.day = 1;"), 0, 6,
                QuestionReader::count);
        bounds.sentence("count: of the question (0 without one)");
        for (int what = 3; what <= 6; what++) {
            int asked = what;
            bounds.answers("new: count(" + what + ")", NEW, 0, reader -> reader.count(asked));
            bounds.answers("open: count(" + what + ")", Bounds.OPEN, 0, reader -> reader.count(asked));
        }
    }

    private static void dimensionBounds() {
        bounds.sentence("dimension: Illegal argument");
        for (Bounds.Maker maker : BOTH) {
            bounds.answers("levels of the last", maker, 2, reader -> reader.dimension(1, 0));
            bounds.answers("members of the last", maker, 3, reader -> reader.dimension(1, 1));
            bounds.argumentOutside("levels", maker, 0, 1, (reader, d) -> reader.dimension(d, 0));
            bounds.argumentOutside("members", maker, 0, 1, (reader, d) -> reader.dimension(d, 1));
            bounds.argumentOutside("what", maker, 0, 1, (reader, what) -> reader.dimension(1, what));
        }
        bounds.argumentOutside("of eight", Bounds.told(dimensions(8)), 0, 7,
                (reader, d) -> reader.dimension(d, 0));
        bounds.argument("of none", Bounds.FRESH, reader -> reader.dimension(0, 0));
        bounds.answers("no members", Bounds.told("dimension a(x);"), 0, reader -> reader.dimension(0, 1));
    }

    private static void valueBounds() {
        bounds.sentence("value: Illegal argument");
        for (Bounds.Maker maker : BOTH) {
            bounds.answers("the last place", maker, maker == NEW ? 8 : 5, reader -> reader.value(0, 1, 3));
            bounds.answers("the last level", maker, 1, reader -> reader.value(0, 2, 0));
            bounds.argumentOutside("place of 0", maker, 0, 3, (reader, place) -> reader.value(0, 0, place));
            bounds.argumentOutside("place of 1", maker, 0, 2, (reader, place) -> reader.value(1, 0, place));
            bounds.argumentOutside("level of 0", maker, 0, 2, (reader, level) -> reader.value(0, level, 0));
            bounds.argumentOutside("level of 1", maker, 0, 1, (reader, level) -> reader.value(1, level, 0));
            bounds.argumentOutside("dimension", maker, 0, 1, (reader, d) -> reader.value(d, 0, 0));
        }
        bounds.argument("without members", Bounds.told("dimension a(x);"), reader -> reader.value(0, 0, 0));
        bounds.argument("without dimensions", Bounds.FRESH, reader -> reader.value(0, 0, 0));
        bounds.argument("of a member that did not come",
                Bounds.with(Bounds.told("dimension a(x);"), "member a(1),(1);"), reader -> reader.value(0, 0, 0));
    }

    private static void rankBounds() {
        bounds.sentence("rank: Illegal argument");
        bounds.answers("the last place", Bounds.OPEN, 3, reader -> reader.rank(0, 0, 3));
        bounds.answers("the last level", Bounds.OPEN, 1, reader -> reader.rank(0, 2, 1));
        bounds.argumentOutside("place of 0", Bounds.OPEN, -1, 3, (reader, place) -> reader.rank(0, 0, place));
        bounds.argumentOutside("place of 1", Bounds.OPEN, -1, 2, (reader, place) -> reader.rank(1, 1, place));
        bounds.argumentOutside("level of 0", Bounds.OPEN, 0, 2, (reader, level) -> reader.rank(0, level, 0));
        bounds.argumentOutside("level of 1, NONE", Bounds.OPEN, 0, 1,
                (reader, level) -> reader.rank(1, level, -1));
        bounds.argumentOutside("dimension", Bounds.OPEN, 0, 1, (reader, d) -> reader.rank(d, 0, 0));
        bounds.argumentOutside("dimension, NONE", Bounds.OPEN, 0, 1, (reader, d) -> reader.rank(d, 0, -1));
    }

    private static void rankOfAll() {
        bounds.sentence("rank: How many values lower than that there are at this level; with NONE altogether");
        Bounds.Maker one = Bounds.opened("dimension a(x,y);measure m;member a(5,5);");
        bounds.answers("the only one", one, 0, reader -> reader.rank(0, 1, 0));
        bounds.answers("all of one", one, 1, reader -> reader.rank(0, 1, -1));
        Bounds.Maker same = Bounds.opened("dimension a(x,y);measure m;member a(3,7),(2,7),(1,7);");
        bounds.answers("the last of three", same, 2, reader -> reader.rank(0, 0, 2));
        bounds.answers("all of three", same, 3, reader -> reader.rank(0, 0, -1));
        bounds.answers("one of the same", same, 0, reader -> reader.rank(0, 1, 2));
        bounds.answers("all of the same", same, 1, reader -> reader.rank(0, 1, -1));
        Bounds.Maker mixed = Bounds.opened("dimension a(x,y);measure m;"
                + "member a(1,2147483647),(2,-2147483648),(3,2147483647),(4,0),(5,-2147483648);");
        int[] due = {2, 0, 2, 1, 0};
        for (int place = 0; place < due.length; place++) {
            int at = place;
            bounds.answers("mixed at " + place, mixed, due[place], reader -> reader.rank(0, 1, at));
        }
        bounds.answers("all of the mixed", mixed, 3, reader -> reader.rank(0, 1, -1));
        Bounds.Maker full = Bounds.opened("dimension a(x);measure m;" + members(0, 1000) + ";");
        bounds.answers("the last of a thousand", full, 999, reader -> reader.rank(0, 0, 999));
        bounds.answers("all of a thousand", full, 1000, reader -> reader.rank(0, 0, -1));
        bounds.argumentOutside("place of a thousand", full, -1, 999,
                (reader, place) -> reader.rank(0, 0, place));
    }

    private static void rankOfNewReader() {
        bounds.sentence("rank: illegal state: the reader is NEW; the exception named first is thrown");
        bounds.state("a place", NEW, reader -> reader.rank(0, 0, 0));
        bounds.state("the last place and level", NEW, reader -> reader.rank(0, 2, 3));
        bounds.state("NONE", NEW, reader -> reader.rank(1, 1, -1));
        bounds.state("NONE without members", Bounds.told("dimension a(x);"), reader -> reader.rank(0, 0, -1));
        bounds.argument("a place without members", Bounds.told("dimension a(x);"),
                reader -> reader.rank(0, 0, 0));
        bounds.argumentOutside("place", NEW, -1, 3, (reader, place) -> reader.rank(0, 0, place));
        bounds.argumentOutside("level", NEW, 0, 2, (reader, level) -> reader.rank(0, level, 0));
        bounds.argumentOutside("dimension", NEW, 0, 1, (reader, d) -> reader.rank(d, 0, -1));
        bounds.argument("without dimensions", Bounds.FRESH, reader -> reader.rank(0, 0, -1));
    }

    private static void findBounds() {
        bounds.sentence("find: Illegal argument");
        bounds.argumentOutside("dimension", Bounds.OPEN, 0, 1, (reader, d) -> reader.find(d, 3));
        bounds.answers("the last dimension", Bounds.OPEN, 0, reader -> reader.find(1, 1));
    }

    private static void findWithoutOne() {
        bounds.sentence("find: NONE without one");
        int[] there = {3, 4, 7, 9};
        for (int value = 2; value <= 10; value++) {
            int place = java.util.Arrays.binarySearch(there, value);
            int asked = value;
            bounds.answers("find " + value, Bounds.OPEN, place < 0 ? -1 : place,
                    reader -> reader.find(0, asked));
        }
        bounds.answers("find the lowest int", Bounds.OPEN, -1, reader -> reader.find(0, MIN));
        bounds.answers("find the highest int", Bounds.OPEN, -1, reader -> reader.find(0, MAX));
        Bounds.Maker ends = Bounds.opened("dimension a(x,y);measure m;member a(2147483647,0),(-2147483648,0);");
        bounds.answers("the lowest int is there", ends, 0, reader -> reader.find(0, MIN));
        bounds.answers("the highest int is there", ends, 1, reader -> reader.find(0, MAX));
        bounds.answers("0 is at level 1 alone", ends, -1, reader -> reader.find(0, 0));
        Bounds.Maker full = Bounds.opened("dimension a(x);measure m;" + members(0, 1000) + ";");
        bounds.answers("the first of a thousand", full, 0, reader -> reader.find(0, 0));
        bounds.answers("the last of a thousand", full, 999, reader -> reader.find(0, 999));
        bounds.answers("below a thousand", full, -1, reader -> reader.find(0, -1));
        bounds.answers("above a thousand", full, -1, reader -> reader.find(0, 1000));
    }

    private static void findOfNewReader() {
        bounds.sentence("find: illegal state: the reader is NEW; the exception named first is thrown");
        bounds.state("a value", NEW, reader -> reader.find(0, 3));
        bounds.state("a value that is not there", NEW, reader -> reader.find(1, 3));
        bounds.state("without members", Bounds.told("dimension a(x);"), reader -> reader.find(0, 0));
        bounds.argumentOutside("dimension", NEW, 0, 1, (reader, d) -> reader.find(d, 3));
        bounds.argument("without dimensions", Bounds.FRESH, reader -> reader.find(0, 0));
    }

    private static void letterBounds() {
        bounds.sentence("letter: Illegal argument");
        int[] right = {0, 1, 8, 9, 10, 12, 13, 40, 41};
        char[] due = {'s', 'd', 's', 'c', 'l', 'd', 'm', 'p', 'n'};
        for (Bounds.Maker maker : BOTH) {
            for (int i = 0; i < right.length; i++) {
                int what = right[i];
                bounds.answers("letter(" + what + ", 0)", maker, due[i], reader -> reader.letter(what, 0));
            }
            int[] wrong = {MIN, -8, -1, 2, 3, 7, 11, 14, 15, 16, 20, 36, 39, 42, 43, 47, 48, 52, 80, MAX};
            for (int what : wrong) {
                bounds.argument("letter(" + what + ", 0)", maker, reader -> reader.letter(what, 0));
                bounds.argument("letter(" + what + ", 50)", maker, reader -> reader.letter(what, 50));
            }
        }
        Bounds.Maker full = Bounds.told(dimensions(8) + measures(8));
        bounds.argumentOutside("of all that may be", full, 0, 47, (reader, what) -> reader.letter(what, 0));
        bounds.answers("the last dimension", full, '7', reader -> reader.letter(7, 1));
        bounds.answers("the last level", full, 'z', reader -> reader.letter(39, 0));
        bounds.answers("the last measure", full, '7', reader -> reader.letter(47, 1));
        bounds.sentence("letter: Illegal argument: also if i is below 0");
        int[] whats = {0, 8, 40};
        for (int what : whats) {
            bounds.argument("letter(" + what + ", -1)", NEW, reader -> reader.letter(what, -1));
            bounds.argument("letter(" + what + ", MIN)", NEW, reader -> reader.letter(what, MIN));
        }
    }

    private static void letterBehindTheEnd() {
        bounds.sentence("letter: NONE behind its end");
        int[] whats = {0, 1, 8, 10, 13, 40, 41};
        int[] lengths = {4, 3, 5, 4, 5, 5, 1};
        for (int k = 0; k < whats.length; k++) {
            int what = whats[k];
            int last = lengths[k] - 1;
            bounds.answers("the last letter of " + what, NEW, true,
                    reader -> reader.letter(what, last) > 0 ? 1 : 0);
            int[] behind = {last + 1, last + 2, 39, 40, 41, MAX};
            for (int i : behind) {
                bounds.answers("letter(" + what + ", " + i + ")", NEW, -1, reader -> reader.letter(what, i));
            }
        }
        // A shorter name stands where a refused longer one was told.
        Bounds.Maker again = Bounds.with(Bounds.with(Bounds.FRESH, "measure longer,"), "measure l;");
        bounds.answers("behind a name told again", again, -1, reader -> reader.letter(40, 1));
    }
}
