/** The bounds that the document names of items, conditions, groups, the question and the pick; promises 13 to 17. */
public final class QuestionBoundsTest {
    private static final Bounds bounds = new Bounds();
    private static final int MIN = Integer.MIN_VALUE;
    private static final int MAX = Integer.MAX_VALUE;
    private static final String WHERE = "select count(*) where ";
    private static final String GROUP = "select count(*) group by ";
    private static final String EIGHT = "a.w,a.x,a.y,a.z,b.w,b.x,b.y,b.z";
    /** A reader with more columns than a question may group by. */
    private static final Bounds.Maker WIDE = Bounds.opened("dimension a(w,x,y,z);dimension b(w,x,y,z);"
            + "dimension c(w,x);measure m;member a(1,1,1,1);member b(1,1,1,1);member c(1,1);");
    private static final Bounds.Maker ASKED = Bounds.with(Bounds.OPEN, "select day.month, sum(n), count(*)"
            + " where day.day = 1 or day.day = 2 group by day.month, rollup(shop.land, shop.store);");
    /** Readers without a question: new, open, and those whose question went with a later run. */
    private static final Bounds.Maker[] UNASKED = {Bounds.FRESH, Bounds.told(Probe.CATALOG), Bounds.OPEN,
        Bounds.with(ASKED, ""), Bounds.with(ASKED, "$"), Bounds.with(ASKED, "measure x;"),
        Bounds.with(ASKED, "select count(*)"), Bounds.with(ASKED, "select day.day;")};

    public static void main(String[] args) {
        itemsOneToTwentyFour();
        partsLeftOut();
        comparisonsAtMostSixty();
        numbersAtMostForty();
        bracketsAtMostForty();
        groupColumnsAtMostEight();
        groupColumnsNoTwoTheSame();
        columnAlone();
        rollups();
        cubes();
        setsAtMostThirtyTwo();
        setsAskedWithTheGroup();
        withoutGroupBy();
        columnNumbers();
        relations();
        between();
        lists();
        bindings();
        itemsThatAreNoGroupColumns();
        theQuestionIsTheLast();
        nothingOfEarlierQuestionsStays();
        withoutQuestion();
        itemBounds();
        groupBounds();
        setBounds();
        pickAtFirst();
        pickBounds();
        pickOfNewReader();
        holdsWithoutWhere();
        askingChangesNothing();
        bounds.end();
    }

    private static void itemsOneToTwentyFour() {
        bounds.sentence("1 to 24 items");
        bounds.faulty(Bounds.OPEN, Probe.OTHER, "select ^;");
        String[] items = {"count(*)", "sum(n)", "min(n)", "max(price)", "shop.city", "grouping(shop.city)"};
        for (String item : items) {
            String rest = " group by shop.city;";
            bounds.right(Bounds.OPEN, 1, "select " + item + rest);
            bounds.right(Bounds.OPEN, 1, "select " + (item + ",").repeat(23) + item + rest);
            bounds.answers("items", Bounds.with(Bounds.OPEN, "select " + (item + ",").repeat(23) + item + rest),
                    24, reader -> reader.count(3));
            String full = "select " + (item + ",").repeat(24);
            bounds.faulty(ASKED, Probe.MANY, full + "^" + item + rest);
            bounds.faulty(Bounds.OPEN, 1, "select min(n);", Probe.MANY, full + "^" + item + rest);
        }
        bounds.sentence("MANY: item (at its first word), asked when that was read");
        String full = "select " + "count(*),".repeat(24);
        String[] words = {"sum", "min", "max", "count", "grouping", "shop", "day"};
        for (String word : words) {
            bounds.faulty(Bounds.OPEN, Probe.MANY, full + "^" + word);
            bounds.faulty(Bounds.OPEN, Probe.MANY, full + "^" + word + " $");
            bounds.faulty(Bounds.OPEN, Probe.MANY, full + " ^" + word + ".nothing");
        }
        bounds.faulty(Bounds.OPEN, Probe.OTHER, full + "^;");
        bounds.faulty(Bounds.OPEN, Probe.END, full + "^");
    }

    private static void partsLeftOut() {
        bounds.sentence("where and what belongs to it may be left out, group by likewise");
        bounds.right(Bounds.OPEN, 1, "select count(*);");
        bounds.right(Bounds.OPEN, 1, "select count(*) where day.day = 1;");
        bounds.right(Bounds.OPEN, 1, "select count(*) group by day.day;");
        bounds.right(Bounds.OPEN, 1, "select count(*) where day.day = 1 group by day.day;");
        bounds.faulty(Bounds.OPEN, Probe.OTHER, "select count(*) where ^;");
        bounds.faulty(Bounds.OPEN, Probe.NAME, "select count(*) where ^group by day.day;");
        bounds.faulty(Bounds.OPEN, Probe.OTHER, "select count(*) group ^;");
        bounds.faulty(Bounds.OPEN, Probe.OTHER, "select count(*) group by ^;");
        bounds.faulty(Bounds.OPEN, Probe.OTHER, "select count(*) group by day.day ^where day.day = 1;");
        bounds.faulty(Bounds.OPEN, Probe.OTHER, "select count(*) where day.day = 1 ^where day.day = 1;");
        bounds.answers("comparisons without where", Bounds.with(Bounds.OPEN, "select count(*);"), 0,
                reader -> reader.count(6));
    }

    private static void comparisonsAtMostSixty() {
        bounds.sentence("At most 60 comparisons");
        String[] comparisons = {"day.day = 1", "day.day between 1 and 2", "day.day in (1,2)",
            "day.day not in (1)"};
        for (String one : comparisons) {
            for (String joint : new String[] {" and ", " or ", " and not ", " or not not "}) {
                String fiftyNine = WHERE + (one + joint).repeat(59);
                bounds.right(Bounds.OPEN, 1, fiftyNine + one + ";");
                bounds.answers("comparisons", Bounds.with(Bounds.OPEN, fiftyNine + one + ";"), 60,
                        reader -> reader.count(6));
                bounds.faulty(ASKED, Probe.MANY, fiftyNine + one + joint + "^" + one + ";");
            }
        }
        String brackets = WHERE + "(day.day=1) or ".repeat(59);
        bounds.right(Bounds.OPEN, 1, brackets + "(day.day=1);");
        bounds.faulty(Bounds.OPEN, Probe.MANY, brackets + "(day.day=1 and ^day.day=1);");
        bounds.faulty(Bounds.OPEN, Probe.MANY, brackets + "(day.day=1) and (^day.day=1);");
        bounds.right(Bounds.OPEN, 2, (WHERE + "day.day=1 or ".repeat(59) + "day.day=1;").repeat(2));
        bounds.sentence("MANY: comparison (at its first word), asked when that was read");
        String full = WHERE + "day.day=1 or ".repeat(60);
        bounds.faulty(Bounds.OPEN, Probe.MANY, full + "^day");
        bounds.faulty(Bounds.OPEN, Probe.MANY, full + "^day $");
        bounds.faulty(Bounds.OPEN, Probe.MANY, full + "^shop.nothing = x");
        bounds.faulty(Bounds.OPEN, Probe.END, full + "not (^");
    }

    private static void numbersAtMostForty() {
        bounds.sentence("40 numbers in a list");
        for (String in : new String[] {"in", "not in"}) {
            String thirtyNine = WHERE + "day.day " + in + " (" + "1,".repeat(39);
            bounds.right(Bounds.OPEN, 1, WHERE + "day.day " + in + " (1);");
            bounds.right(Bounds.OPEN, 1, thirtyNine + "2);");
            bounds.faulty(ASKED, Probe.MANY, thirtyNine + "2,^3);");
            bounds.faulty(ASKED, Probe.MANY, thirtyNine + "2,^3,4,5);");
            bounds.faulty(ASKED, Probe.MANY, thirtyNine + "2,^3");
            bounds.faulty(ASKED, Probe.OTHER, thirtyNine + "2,^);");
            bounds.faulty(ASKED, Probe.OTHER, WHERE + "day.day " + in + " (^);");
            String two = thirtyNine + "2) and day.day " + in + " (" + "3,".repeat(39);
            bounds.right(Bounds.OPEN, 1, two + "4);");
            bounds.faulty(Bounds.OPEN, Probe.MANY, two + "4,^5);");
        }
        // The last of forty numbers counts like the others.
        String list = WHERE + "day.day in (" + "-1,".repeat(39) + "1);";
        bounds.answers("the fortieth number", Bounds.with(Bounds.OPEN, list), true,
                reader -> reader.holds() ? 1 : 0);
    }

    private static void bracketsAtMostForty() {
        bounds.sentence("40 brackets of a condition open at a time");
        for (String bracket : new String[] {"(", "not (", "(not not "}) {
            String inner = "day.day = 1";
            bounds.right(Bounds.OPEN, 1, WHERE + bracket.repeat(40) + inner + ")".repeat(40) + ";");
            bounds.faulty(ASKED, Probe.MANY, WHERE + bracket.repeat(40)
                    + bracket.replace("(", "^(") + inner + ")".repeat(41) + ";");
            bounds.faulty(ASKED, Probe.MANY, WHERE + bracket.repeat(40) + bracket.replace("(", "^("));
        }
        String deep = "(".repeat(40) + "day.day = 1" + ")".repeat(40);
        bounds.right(Bounds.OPEN, 1, WHERE + deep + " and " + deep + " or " + deep + ";");
        bounds.right(Bounds.OPEN, 1, WHERE + "(".repeat(40) + "day.day = 1) or (day.day = 1"
                + ")".repeat(40) + ";");
        bounds.faulty(Bounds.OPEN, Probe.MANY, WHERE + "(".repeat(40) + "day.day = 1) or (^(day.day = 1");
        bounds.faulty(Bounds.OPEN, Probe.MANY, WHERE + "day.day = 1 and " + "(".repeat(40) + "^(day.day = 1");
        bounds.sentence("brackets of a condition: those of a list are none");
        bounds.right(Bounds.OPEN, 1, WHERE + "(".repeat(40) + "day.day in (1)" + ")".repeat(40) + ";");
        bounds.sentence("( CONDITION ): as many brackets close as were opened");
        bounds.faulty(Bounds.OPEN, Probe.OTHER, WHERE + "(".repeat(40) + "day.day = 1" + ")".repeat(39) + "^;");
        bounds.faulty(Bounds.OPEN, Probe.OTHER, WHERE + deep + "^);");
        bounds.faulty(Bounds.OPEN, Probe.OTHER, WHERE + "day.day = 1^);");
        bounds.faulty(Bounds.OPEN, Probe.OTHER, WHERE + "(^);");
    }

    private static void groupColumnsAtMostEight() {
        bounds.sentence("GROUP COLUMNS 0, 1, .., in their order, 8 at most");
        bounds.right(WIDE, 1, GROUP + EIGHT + ";");
        bounds.right(WIDE, 1, GROUP + "rollup(" + EIGHT + ");");
        bounds.right(WIDE, 1, GROUP + "a.w,a.x,a.y,cube(a.z,b.w),rollup(b.x,b.y),b.z;");
        bounds.answers("group columns", Bounds.with(WIDE, GROUP + EIGHT + ";"), 8, reader -> reader.count(4));
        int[] due = {0, 1, 2, 3, 4, 5, 6, 7};
        for (int k = 0; k < 8; k++) {
            int asked = k;
            bounds.answers("group(" + k + ")", Bounds.with(WIDE, GROUP + "rollup(" + EIGHT + ");"), due[k],
                    reader -> reader.group(asked));
        }
        bounds.faulty(WIDE, Probe.MANY, GROUP + EIGHT + ",^c.w;");
        bounds.faulty(WIDE, Probe.MANY, GROUP + EIGHT + ",rollup(^c.w);");
        bounds.faulty(WIDE, Probe.MANY, GROUP + EIGHT + ",cube(^c.w);");
        bounds.faulty(WIDE, Probe.MANY, GROUP + "rollup(" + EIGHT + ",^c.w);");
        bounds.faulty(WIDE, Probe.MANY, GROUP + "cube(" + EIGHT + ",^c.w);");
        bounds.faulty(WIDE, 1, GROUP + "c.w;", Probe.MANY, GROUP + EIGHT + ",^c.w;");
        bounds.sentence("MANY: group column (at its first word), asked when that was read");
        bounds.faulty(WIDE, Probe.MANY, GROUP + EIGHT + ",^c");
        bounds.faulty(WIDE, Probe.MANY, GROUP + EIGHT + ",^c $");
        bounds.faulty(WIDE, Probe.MANY, GROUP + EIGHT + ",^c.nothing;");
        bounds.faulty(WIDE, Probe.END, GROUP + EIGHT + ",rollup(^");
        bounds.faulty(WIDE, Probe.OTHER, GROUP + EIGHT + ",^;");
    }

    private static void groupColumnsNoTwoTheSame() {
        bounds.sentence("TWICE: a group column that was there (at its first word, asked when it was read)");
        bounds.faulty(WIDE, Probe.TWICE, GROUP + "a.w,^a.w;");
        bounds.faulty(WIDE, Probe.TWICE, GROUP + "a.w,a.x,^a.w;");
        bounds.faulty(WIDE, Probe.TWICE, GROUP + "rollup(a.w,^a.w);");
        bounds.faulty(WIDE, Probe.TWICE, GROUP + "cube(a.w,a.x),rollup(b.w,^a.x);");
        bounds.faulty(WIDE, Probe.TWICE, GROUP + "cube(a.w,a.x),^a.w;");
        bounds.faulty(WIDE, Probe.TWICE, GROUP + "a.w, ^a . w $");
        bounds.faulty(WIDE, Probe.TWICE, GROUP + "a.w,a.x,a.y,a.z,b.w,b.x,b.y,^b.y;");
        bounds.faulty(WIDE, Probe.NAME, GROUP + "a.w,a.^v;");
        bounds.faulty(WIDE, Probe.OTHER, GROUP + "a.w,a^;");
        bounds.faulty(WIDE, Probe.END, GROUP + "a.w,a.^");
        bounds.right(WIDE, 1, GROUP + "a.w,b.w,a.x,b.x;");
        bounds.right(WIDE, 2, GROUP + "a.w;" + GROUP + "a.w;");
    }

    private static void columnAlone() {
        bounds.sentence("A column alone stands for one set of columns, itself");
        dueSets("a.w", 1);
        dueSets("a.w,b.x", 3);
        dueSets(EIGHT, 255);
    }

    private static void rollups() {
        bounds.sentence("a rollup for the sets of its first n, n - 1, .., 0 columns");
        dueSets("rollup(a.w)", 1, 0);
        dueSets("rollup(a.w,a.x)", 3, 1, 0);
        dueSets("rollup(" + EIGHT + ")", 255, 127, 63, 31, 15, 7, 3, 1, 0);
        dueSets("c.w,rollup(a.w,a.x)", 7, 3, 1);
        dueSets("rollup(a.w,a.x),c.w", 7, 5, 4);
    }

    private static void cubes() {
        bounds.sentence("a cube for all sets of its columns");
        dueSets("cube(a.w)", 1, 0);
        dueSets("cube(a.w,a.x)", 3, 2, 1, 0);
        dueSets("c.w,cube(a.w,a.x)", 7, 5, 3, 1);
        dueSets("cube(a.w,a.x),c.w", 7, 6, 5, 4);
        dueSets("cube(a.w,a.x,a.y),c.w,c.x", 31, 30, 29, 28, 27, 26, 25, 24);
    }

    private static void setsAtMostThirtyTwo() {
        bounds.sentence("GROUPING SETS are all that come by taking one set of each group together, at most 32");
        int[] all = new int[32];
        for (int i = 0; i < 32; i++) {
            all[i] = 31 - i;
        }
        dueSets("cube(a.w,a.x,a.y,a.z,b.w)", all);
        dueSets("cube(a.w,a.x),cube(a.y,a.z),rollup(b.w)", all);
        dueSets("rollup(a.w),rollup(a.x),rollup(a.y),rollup(a.z),rollup(b.w)", all);
        int[] due = {24, 25, 27, 30, 32};
        String[] right = {"cube(a.w,a.x,a.y),rollup(a.z,b.w)", "rollup(a.w,a.x,a.y,a.z),rollup(b.w,b.x,b.y,b.z)",
            "rollup(a.w,a.x),rollup(a.y,a.z),rollup(b.w,b.x)", "rollup(a.w,a.x,a.y,a.z),rollup(b.w,b.x),cube(b.y)",
            "rollup(a.w,a.x,a.y),cube(a.z,b.w,b.x),b.y,b.z"};
        for (int i = 0; i < right.length; i++) {
            bounds.answers("sets of " + right[i], Bounds.with(WIDE, GROUP + right[i] + ";"), due[i],
                    reader -> reader.count(5));
        }
        String[] wrong = {"rollup(a.w,a.x,a.y),rollup(a.z,b.w),rollup(b.x,b.y)", "cube(a.w,a.x,a.y,a.z,b.w,b.x)",
            "cube(a.w,a.x,a.y,a.z,b.w),rollup(b.x)", "rollup(a.w),cube(a.x,a.y,a.z,b.w,b.x)",
            "rollup(a.w,a.x,a.y,a.z),cube(b.w,b.x,b.y)", "cube(" + EIGHT + ")",
            "cube(a.w,a.x,a.y),cube(a.z,b.w),cube(b.x)",
            "rollup(a.w),rollup(a.x),rollup(a.y),rollup(a.z),rollup(b.w),rollup(b.x)"};
        for (String groups : wrong) {
            bounds.faulty(Bounds.with(WIDE, GROUP + "c.w;"), Probe.MANY, "select count(*) ^group by " + groups + ";");
        }
    }

    private static void setsAskedWithTheGroup() {
        bounds.sentence("more grouping sets (at the word group, asked when the group was read with which there are)");
        String six = "cube(a.w,a.x,a.y,a.z,b.w,b.x";
        bounds.faulty(WIDE, Probe.MANY, "select count(*) ^group by " + six + ")");
        bounds.faulty(WIDE, Probe.MANY, "select count(*) ^group by " + six + ") $");
        bounds.faulty(WIDE, Probe.MANY, "select count(*) where a.w = 1 ^group by " + six + "),a.w");
        bounds.faulty(WIDE, Probe.MANY, "select c.w, count(*) ^group by " + six + ");");
        bounds.faulty(WIDE, Probe.MANY, "select count(*) ^group by " + six + "), " + six + ");");
        bounds.faulty(WIDE, Probe.SIGN, GROUP + six + "^$");
        bounds.faulty(WIDE, Probe.END, GROUP + six + "^");
        bounds.faulty(WIDE, Probe.OTHER, GROUP + six + "^;");
        bounds.faulty(WIDE, Probe.NAME, GROUP + six + ",^d.w);");
        bounds.faulty(WIDE, Probe.TWICE, GROUP + six + ",^a.w);");
        bounds.faulty(WIDE, Probe.MANY, GROUP + six + ",b.y,b.z,^c.w);");
        String full = "cube(a.w,a.x,a.y,a.z,b.w)";
        bounds.right(WIDE, 1, GROUP + full + ",b.x,b.y,b.z;");
        bounds.faulty(WIDE, Probe.MANY, "select count(*) ^group by " + full + ",b.x,rollup(b.y)$");
        bounds.faulty(WIDE, Probe.OTHER, GROUP + full + ",b.x,rollup^;");
    }

    private static void withoutGroupBy() {
        bounds.sentence("Without group by the only one is the empty set");
        String[] texts = {"select count(*);", "select sum(m) where a.w = 1;", GROUP + "a.w,cube(b.w);select min(m);"};
        for (String text : texts) {
            Bounds.Maker maker = Bounds.with(WIDE, text);
            bounds.answers("sets of " + text, maker, 1, reader -> reader.count(5));
            bounds.answers("the set of " + text, maker, 0, reader -> reader.set(0));
            bounds.answers("group columns of " + text, maker, 0, reader -> reader.count(4));
            bounds.argument("a second set of " + text, maker, reader -> reader.set(1));
            bounds.argument("a group column of " + text, maker, reader -> reader.group(0));
        }
    }

    private static void dueSets(String groups, int... due) {
        Bounds.Maker maker = Bounds.with(WIDE, GROUP + groups + ";");
        bounds.answers("fault of " + groups, maker, 0, reader -> reader.fault(0));
        bounds.answers("sets of " + groups, maker, due.length, reader -> reader.count(5));
        for (int i = 0; i < due.length; i++) {
            int asked = i;
            bounds.answers("set(" + i + ") of " + groups, maker, due[i], reader -> reader.set(asked));
        }
        bounds.argumentOutside("set of " + groups, maker, 0, due.length - 1, QuestionReader::set);
    }

    private static void columnNumbers() {
        bounds.sentence("its NUMBER is four times the dimension and the level");
        StringBuilder text = new StringBuilder("measure m;");
        for (int d = 0; d < 8; d++) {
            text.append("dimension d").append(d).append("(l0,l1,l2,l3);member d").append(d).append("(1,2,3,4);");
        }
        for (int d = 0; d < 8; d++) {
            for (int level = 0; level < 4; level++) {
                String column = "d" + d + ".l" + level;
                Bounds.Maker maker = Bounds.with(Bounds.opened(text.toString()), "select " + column + ",grouping("
                        + column + ") where " + column + "=" + (level + 1) + " group by " + column + ";");
                int number = 4 * d + level;
                bounds.answers("item " + column, maker, number, reader -> reader.item(0, 1));
                bounds.answers("grouping of " + column, maker, number, reader -> reader.item(1, 1));
                bounds.answers("group column " + column, maker, number, reader -> reader.group(0));
                bounds.answers("comparison of " + column, maker, true, reader -> reader.holds() ? 1 : 0);
            }
        }
    }

    private static void relations() {
        bounds.sentence("COLUMN and one of = <> < <= > >= and a NUMBER");
        int[] values = {MIN, MIN + 1, -1, 0, 1, MAX - 1, MAX};
        for (int value : values) {
            Bounds.Maker maker = Bounds.opened("dimension a(x);measure m;member a(" + value + ");");
            for (int other : values) {
                dueHolds(maker, "a.x = " + other, value == other);
                dueHolds(maker, "a.x <> " + other, value != other);
                dueHolds(maker, "a.x < " + other, value < other);
                dueHolds(maker, "a.x <= " + other, value <= other);
                dueHolds(maker, "a.x > " + other, value > other);
                dueHolds(maker, "a.x >= " + other, value >= other);
            }
        }
    }

    private static void between() {
        bounds.sentence("between NUMBER and NUMBER (neither below the first nor above the second)");
        int[] values = {MIN, 4, 5, 6, 9, 10, 11, MAX};
        int[][] ranges = {{5, 10}, {5, 5}, {10, 5}, {MIN, MAX}, {MAX, MIN}, {MIN, 5}, {10, MAX}, {MIN, MIN},
            {MAX, MAX}};
        for (int value : values) {
            Bounds.Maker maker = Bounds.opened("dimension a(x);measure m;member a(" + value + ");");
            for (int[] range : ranges) {
                boolean due = value >= range[0] && value <= range[1];
                dueHolds(maker, "a.x between " + range[0] + " and " + range[1], due);
                dueHolds(maker, "not a.x between " + range[0] + " and " + range[1], !due);
            }
        }
    }

    private static void lists() {
        bounds.sentence("COLUMN in ( NUMBER , .. ); COLUMN not in ( NUMBER , .. )");
        int[] values = {MIN, 0, 7, MAX};
        for (int value : values) {
            Bounds.Maker maker = Bounds.opened("dimension a(x);measure m;member a(" + value + ");");
            dueHolds(maker, "a.x in (0)", value == 0);
            dueHolds(maker, "a.x not in (0)", value != 0);
            dueHolds(maker, "a.x in (-2147483648,2147483647)", value == MIN || value == MAX);
            dueHolds(maker, "a.x not in (-2147483648,2147483647)", value == 0 || value == 7);
            dueHolds(maker, "a.x in (" + "1,".repeat(39) + "7)", value == 7);
            dueHolds(maker, "a.x in (7" + ",1".repeat(39) + ")", value == 7);
            dueHolds(maker, "a.x not in (" + "1,".repeat(39) + "7)", value != 7);
            dueHolds(maker, "a.x in (7,7,7)", value == 7);
        }
    }

    private static void bindings() {
        bounds.sentence("not binds closer than and, and closer than or");
        Bounds.Maker maker = Bounds.opened("dimension a(x);measure m;member a(1);");
        String yes = "a.x = 1";
        String no = "a.x = 0";
        dueHolds(maker, yes + " or " + no + " and " + no, true);
        dueHolds(maker, "(" + yes + " or " + no + ") and " + no, false);
        dueHolds(maker, no + " and " + no + " or " + yes, true);
        dueHolds(maker, no + " and (" + no + " or " + yes + ")", false);
        dueHolds(maker, "not " + no + " and " + no, false);
        dueHolds(maker, "not (" + no + " and " + no + ")", true);
        dueHolds(maker, "not " + yes + " or " + yes, true);
        dueHolds(maker, "not (" + yes + " or " + yes + ")", false);
        dueHolds(maker, "not not " + yes, true);
        dueHolds(maker, "not not not " + yes, false);
        dueHolds(maker, "not ".repeat(500) + yes, true);
        dueHolds(maker, "not ".repeat(501) + yes, false);
        dueHolds(maker, "(not ".repeat(39) + yes + ")".repeat(39), false);
        dueHolds(maker, "(not ".repeat(40) + yes + ")".repeat(40), true);
        dueHolds(maker, (no + " or ").repeat(59) + yes, true);
        dueHolds(maker, (yes + " and ").repeat(59) + no, false);
        dueHolds(maker, (yes + " and " + no + " or ").repeat(29) + yes + " and " + yes, true);
        dueTruths(Bounds.OPEN, "shop.store = 3 and day.day = 1 or shop.store = 4 and not day.day = 15"
                + " or shop.store = 9",
                (store, day) -> store == 3 && day == 1 || store == 4 && day != 15 || store == 9);
        dueTruths(Bounds.OPEN, "shop.store = 3 or (day.day = 1 or shop.store = 4) and not (day.day = 31"
                + " or shop.store = 7)", (store, day) -> store == 3
                || (day == 1 || store == 4) && !(day == 31 || store == 7));
        dueTruths(Bounds.OPEN, "not (shop.store = 3 or day.day = 1) and not (shop.store = 4 and day.day = 15)",
                (store, day) -> !(store == 3 || day == 1) && !(store == 4 && day == 15));
        dueTruths(Bounds.OPEN, "(shop.store <> 3 and ".repeat(30) + "(day.day = 1 or ".repeat(10)
                + "day.day = 31 and shop.store = 7" + ")".repeat(40),
                (store, day) -> store != 3 && (day == 1 || day == 31 && store == 7));
    }

    private static void dueHolds(Bounds.Maker maker, String condition, boolean due) {
        bounds.answers(condition, Bounds.with(maker, WHERE + condition + ";"), due,
                reader -> reader.holds() ? 1 : 0);
    }

    private static void itemsThatAreNoGroupColumns() {
        bounds.sentence("GROUP: an item that is a column, or grouping of one, that is no group column");
        bounds.faulty(ASKED, Probe.GROUP, "select ^shop.city;");
        bounds.faulty(ASKED, Probe.GROUP, "select ^grouping(shop.city);");
        bounds.faulty(ASKED, Probe.GROUP, "select ^shop.city group by shop.land;");
        bounds.faulty(ASKED, Probe.GROUP, "select ^shop.store group by day.day;");
        bounds.faulty(ASKED, Probe.GROUP, "select ^grouping(shop.city) group by rollup(shop.land);");
        bounds.right(ASKED, 1, "select shop.city group by shop.city;");
        bounds.right(ASKED, 1, "select grouping(shop.city) group by shop.land, shop.city;");
        bounds.right(ASKED, 1, "select sum(n), count(*);");
        bounds.right(ASKED, 1, "select sum(n), count(*) group by shop.city;");
        bounds.sentence("GROUP: (the first such item, at its beginning; asked at the ;)");
        bounds.faulty(ASKED, Probe.GROUP, "select count(*), shop.city, ^shop.land, day.day group by shop.city;");
        bounds.faulty(ASKED, Probe.GROUP, "select sum(n), ^grouping ( shop.land ), day.day;");
        bounds.faulty(ASKED, Probe.GROUP, "select " + "count(*),".repeat(23) + "^day.day;");
        bounds.faulty(ASKED, Probe.END, "select shop.city^");
        bounds.faulty(ASKED, Probe.OTHER, "select shop.city^)");
        bounds.faulty(ASKED, Probe.NAME, "select shop.city group by ^city;");
        bounds.faulty(ASKED, Probe.TWICE, "select shop.city group by day.day,^day.day;");
        bounds.faulty(ASKED, 1, "select count(*);", Probe.GROUP, "select ^shop.city;select count(*);");
    }

    private static void theQuestionIsTheLast() {
        bounds.sentence("THE QUESTION is the last one that was carried out in the latest run()");
        Bounds.Maker two = Bounds.with(ASKED, "select count(*);select sum(n),min(n) where day.day = 1;");
        bounds.answers("items of the last", two, 2, reader -> reader.count(3));
        bounds.answers("comparisons of the last", two, 1, reader -> reader.count(6));
        bounds.answers("group columns of the last", two, 0, reader -> reader.count(4));
        Bounds.Maker three = Bounds.with(ASKED, "select sum(n);select min(n);select max(n);");
        bounds.answers("the third", three, 3, reader -> reader.item(0, 0));
        Bounds.Maker fault = Bounds.with(ASKED, "select max(n);select count(*),count(*) where day.day = 1 or;");
        bounds.answers("items of that before the fault", fault, 1, reader -> reader.count(3));
        bounds.answers("comparisons of that before the fault", fault, 0, reader -> reader.count(6));
        bounds.answers("a fed text leaves it", Bounds.fed(ASKED, "select count(*);"), 3,
                reader -> reader.count(3));
    }

    /** The rows are made at first and used again: what other questions left in them must not count. */
    private static void nothingOfEarlierQuestionsStays() {
        bounds.sentence("THE QUESTION is the last one: nothing of those before it, right or refused, stays");
        String[] before = {"select sum(n),min(n),max(n) where not (day.day not in (1,2,3) or shop.store = 1)"
                + " and not shop.city in (7) or not day.day < 3 group by cube(day.day,shop.city,shop.land);",
            "select min(n) where not (shop.store not in (3", "select min(n) where ((day.day = 1 or not (",
            "select min(n) where day.day not in (1,2) or day.day = 1 and not",
            "select min(n) where not not not (not", "select shop.city, day.day",
            "select min(n) group by shop.city, rollup(day.day, day.month), cube(shop.land"};
        for (String text : before) {
            for (int times = 1; times <= 3; times++) {
                Bounds.Maker maker = Bounds.OPEN;
                for (int i = 0; i < times; i++) {
                    maker = Bounds.with(maker, text);
                }
                dueTruths(maker, "day.day = 1", (store, day) -> day == 1);
                dueTruths(maker, "day.day between 2 and 20", (store, day) -> day == 15);
                dueTruths(maker, "day.day in (31,1)", (store, day) -> day != 15);
                dueTruths(maker, "(day.day = 1 or shop.store = 4) and shop.store > 3",
                        (store, day) -> (day == 1 || store == 4) && store > 3);
                Bounds.Maker plain = Bounds.with(maker, "select count(*);");
                bounds.answers("the only set", plain, 0, reader -> reader.set(0));
                bounds.answers("sets", plain, 1, reader -> reader.count(5));
                bounds.answers("group columns", plain, 0, reader -> reader.count(4));
                bounds.answers("comparisons", plain, 0, reader -> reader.count(6));
                bounds.answers("items", plain, 1, reader -> reader.count(3));
                bounds.answers("the condition", plain, true, reader -> reader.holds() ? 1 : 0);
            }
        }
    }

    interface Truth {
        boolean of(int store, int day);
    }

    private static void dueTruths(Bounds.Maker maker, String condition, Truth truth) {
        Bounds.Maker asked = Bounds.with(maker, WHERE + condition + ";");
        int[] stores = {3, 4, 7, 9};
        int[] days = {1, 15, 31};
        for (int shop = 0; shop < stores.length; shop++) {
            for (int day = 0; day < days.length; day++) {
                int p = shop;
                int q = day;
                bounds.answers(condition + " at " + shop + ", " + day, asked, truth.of(stores[shop], days[day]),
                        reader -> 0 * (reader.pick(0, p) + reader.pick(1, q)) + (reader.holds() ? 1 : 0));
            }
        }
    }

    private static void withoutQuestion() {
        bounds.sentence("(none if that had none)");
        for (Bounds.Maker maker : UNASKED) {
            for (int what = 3; what <= 6; what++) {
                int asked = what;
                bounds.answers("count(" + what + ")", maker, 0, reader -> reader.count(asked));
            }
            bounds.argumentOutside("item", maker, 0, -1, (reader, i) -> reader.item(i, 0));
            bounds.argumentOutside("group", maker, 0, -1, QuestionReader::group);
            bounds.argumentOutside("set", maker, 0, -1, QuestionReader::set);
            bounds.state("holds", maker, reader -> reader.holds() ? 1 : 0);
        }
    }

    private static void itemBounds() {
        bounds.sentence("item: Illegal argument");
        bounds.answers("the first", ASKED, 5, reader -> reader.item(0, 1));
        bounds.answers("the last", ASKED, 4, reader -> reader.item(2, 0));
        bounds.argumentOutside("item", ASKED, 0, 2, (reader, i) -> reader.item(i, 0));
        bounds.argumentOutside("item, 1", ASKED, 0, 2, (reader, i) -> reader.item(i, 1));
        bounds.argumentOutside("what", ASKED, 0, 1, (reader, what) -> reader.item(2, what));
        Bounds.Maker full = Bounds.with(Bounds.OPEN, "select " + "sum(price),".repeat(23) + "sum(n);");
        bounds.answers("the last of 24", full, 1, reader -> reader.item(23, 1));
        bounds.argumentOutside("item of 24", full, 0, 23, (reader, i) -> reader.item(i, 0));
        bounds.sentence("item: 0 a column, 1 sum, 2 min, 3 max, 4 count, 5 grouping");
        Bounds.Maker six = Bounds.with(Bounds.OPEN,
                "select shop.city,sum(n),min(n),max(n),count(*),grouping(shop.city) group by shop.city;");
        int[] targets = {1, 1, 1, 1, 0, 1};
        for (int i = 0; i < 6; i++) {
            int asked = i;
            bounds.answers("type of item " + i, six, i, reader -> reader.item(asked, 0));
            bounds.answers("target of item " + i, six, targets[i], reader -> reader.item(asked, 1));
        }
        bounds.sentence("item: the column's number, or the measure, 0 for count");
        bounds.answers("of count", ASKED, 0, reader -> reader.item(2, 1));
        bounds.answers("of sum", ASKED, 1, reader -> reader.item(1, 1));
        bounds.answers("of a count behind another question", Bounds.with(ASKED,
                "select sum(n),sum(n),sum(n);select sum(n),count(*);"), 0, reader -> reader.item(1, 1));
    }

    private static void groupBounds() {
        bounds.sentence("group: Illegal argument");
        bounds.answers("the first", ASKED, 5, reader -> reader.group(0));
        bounds.answers("the last", ASKED, 0, reader -> reader.group(2));
        bounds.argumentOutside("group", ASKED, 0, 2, QuestionReader::group);
        Bounds.Maker full = Bounds.with(WIDE, GROUP + EIGHT + ";");
        bounds.answers("the last of eight", full, 7, reader -> reader.group(7));
        bounds.argumentOutside("group of eight", full, 0, 7, QuestionReader::group);
    }

    private static void setBounds() {
        bounds.sentence("set: Illegal argument: there are not so many");
        bounds.answers("the first", ASKED, 7, reader -> reader.set(0));
        bounds.answers("the last", ASKED, 1, reader -> reader.set(2));
        bounds.argumentOutside("set", ASKED, 0, 2, QuestionReader::set);
    }

    private static void pickAtFirst() {
        bounds.sentence("THE PICK is .. the one at place 0 at first, and whenever the reader opens");
        bounds.answers("of 0", Bounds.OPEN, 0, reader -> reader.pick(0, 3));
        bounds.answers("of 1", Bounds.OPEN, 0, reader -> reader.pick(1, 2));
        bounds.answers("which place it had", Bounds.OPEN, 3, reader -> 0 * reader.pick(0, 3) + reader.pick(0, 1));
        bounds.answers("the other dimension's stays", Bounds.OPEN, 0,
                reader -> 0 * reader.pick(0, 3) + reader.pick(1, 1));
        bounds.answers("a run leaves it", Bounds.OPEN, 3, reader -> {
            reader.pick(0, 3);
            Probe.run(reader, "select count(*) where shop.store = 4;select");
            return reader.pick(0, 0);
        });
        Bounds.Maker lowest = Bounds.with(Bounds.opened("dimension a(x);measure m;member a(5),(3),(4);"),
                WHERE + "a.x = 3;");
        bounds.answers("the lowest value is picked", lowest, true, reader -> reader.holds() ? 1 : 0);
    }

    private static void pickBounds() {
        bounds.sentence("pick: Illegal argument");
        bounds.answers("the last place", Bounds.OPEN, 3, reader -> 0 * reader.pick(0, 3) + reader.pick(0, 3));
        Bounds.Maker picked = () -> {
            QuestionReader reader = ASKED.make();
            reader.pick(0, 2);
            reader.pick(1, 1);
            return reader;
        };
        bounds.argumentOutside("place of 0", picked, 0, 3, (reader, place) -> reader.pick(0, place));
        bounds.argumentOutside("place of 1", picked, 0, 2, (reader, place) -> reader.pick(1, place));
        bounds.argumentOutside("dimension", picked, 0, 1, (reader, d) -> reader.pick(d, 0));
    }

    private static void pickOfNewReader() {
        bounds.sentence("pick: illegal state: the reader is NEW; the exception named first is thrown");
        Bounds.Maker told = Bounds.told(Probe.CATALOG);
        bounds.state("place 0", told, reader -> reader.pick(0, 0));
        bounds.state("the last place", told, reader -> reader.pick(1, 2));
        bounds.argumentOutside("place", told, 0, 3, (reader, place) -> reader.pick(0, place));
        bounds.argumentOutside("dimension", told, 0, 1, (reader, d) -> reader.pick(d, 0));
        bounds.argument("without members", Bounds.told("dimension a(x);"), reader -> reader.pick(0, 0));
        bounds.argument("without dimensions", Bounds.FRESH, reader -> reader.pick(0, 0));
    }

    private static void holdsWithoutWhere() {
        bounds.sentence("holds: (without where: it does)");
        bounds.answers("no condition", Bounds.with(Bounds.OPEN, "select count(*);"), true,
                reader -> reader.holds() ? 1 : 0);
        bounds.answers("no condition, behind a false one", Bounds.with(Bounds.OPEN,
                WHERE + "day.day = 0;" + GROUP + "day.day;"), true, reader -> reader.holds() ? 1 : 0);
        bounds.answers("a false one", Bounds.with(Bounds.OPEN, WHERE + "day.day = 0;"), false,
                reader -> reader.holds() ? 1 : 0);
        bounds.answers("a false one behind none", Bounds.with(Bounds.OPEN,
                "select count(*);" + WHERE + "day.day = 0;"), false, reader -> reader.holds() ? 1 : 0);
        bounds.sentence("holds: Illegal state: there is no question");
        bounds.state("behind one that went", Bounds.with(ASKED, " "), reader -> reader.holds() ? 1 : 0);
    }

    private static void askingChangesNothing() {
        bounds.sentence("Nothing is promised beyond the answers and state changes described above");
        Bounds.Maker fed = Bounds.fed(ASKED, "select sum(n);");
        bounds.leaves("trim of nothing", fed, 14, reader -> reader.trim(0));
        bounds.leaves("fault", fed, -1, reader -> reader.fault(1));
        bounds.leaves("count", fed, 14, reader -> reader.count(2));
        bounds.leaves("dimension", fed, 4, reader -> reader.dimension(0, 1));
        bounds.leaves("value", fed, 9, reader -> reader.value(0, 0, 3));
        bounds.leaves("rank", fed, 2, reader -> reader.rank(0, 1, 1));
        bounds.leaves("find", fed, 3, reader -> reader.find(0, 9));
        bounds.leaves("find without one", fed, -1, reader -> reader.find(0, 8));
        bounds.leaves("letter", fed, 's', reader -> reader.letter(0, 0));
        bounds.leaves("item", fed, 1, reader -> reader.item(1, 1));
        bounds.leaves("group", fed, 2, reader -> reader.group(1));
        bounds.leaves("set", fed, 3, reader -> reader.set(1));
        bounds.leaves("holds", fed, 1, reader -> reader.holds() ? 1 : 0);
        bounds.leaves("a pick that was there", fed, 0, reader -> reader.pick(0, 0));
    }
}
