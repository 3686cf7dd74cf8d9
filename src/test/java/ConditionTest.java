/** Promises 16 and 17: pick, holds. */
public final class ConditionTest {
    private static final Probe probe = new Probe();

    interface Truth {
        boolean of(int store, int city, int land, int day, int month);
    }

    public static void main(String[] args) {
        pick();
        pickOfNewReader();
        comparisons();
        edgesOfInts();
        bindings();
        depths();
        sixtyComparisons();
        state();
        probe.end();
    }

    private static void pick() {
        QuestionReader reader = Probe.openReader();
        probe.due("the first pick", reader.pick(0, 3), 0);
        probe.due("the same again", reader.pick(0, 3), 3);
        probe.due("another dimension", reader.pick(1, 1), 0);
        probe.illegalArgument("pick(0, 4)", () -> reader.pick(0, 4));
        probe.illegalArgument("pick(0, -1)", () -> reader.pick(0, -1));
        probe.illegalArgument("pick(1, 3)", () -> reader.pick(1, 3));
        probe.illegalArgument("pick(2, 0)", () -> reader.pick(2, 0));
        probe.illegalArgument("pick(-1, 0)", () -> reader.pick(-1, 0));
        Probe.run(reader, "select count(*);");
        reader.open();
        probe.due("what throws, runs and a second open change no pick", reader.pick(0, 0), 3);
        probe.due("nor the other one", reader.pick(1, 0), 1);
    }

    private static void pickOfNewReader() {
        QuestionReader reader = new QuestionReader();
        Probe.run(reader, "dimension a(x);measure m;member a(5),(3);");
        probe.illegalState("new: pick(0, 1)", () -> reader.pick(0, 1));
        probe.illegalArgument("new: pick(0, 2)", () -> reader.pick(0, 2));
        probe.illegalArgument("new: pick(1, 0)", () -> reader.pick(1, 0));
        reader.open();
        probe.due("the pick of a reader that opened", reader.pick(0, 1), 0);
        Probe.run(reader, "select count(*) where a.x = 5;");
        probe.due("the place is that by values", reader.holds(), true);
    }

    private static void comparisons() {
        dueTruths("shop.store = 4", (s, c, l, d, m) -> s == 4);
        dueTruths("shop.store <> 4", (s, c, l, d, m) -> s != 4);
        dueTruths("shop.store < 4", (s, c, l, d, m) -> s < 4);
        dueTruths("shop.store <= 4", (s, c, l, d, m) -> s <= 4);
        dueTruths("shop.store > 4", (s, c, l, d, m) -> s > 4);
        dueTruths("shop.store >= 4", (s, c, l, d, m) -> s >= 4);
        dueTruths("shop.store between 4 and 7", (s, c, l, d, m) -> s >= 4 && s <= 7);
        dueTruths("shop.store between 7 and 4", (s, c, l, d, m) -> false);
        dueTruths("shop.store between 4 and 4", (s, c, l, d, m) -> s == 4);
        dueTruths("shop.city in (8)", (s, c, l, d, m) -> c == 8);
        dueTruths("shop.city in (8, 1, 5, 5)", (s, c, l, d, m) -> c == 8 || c == 5);
        dueTruths("shop.city not in (8, 5)", (s, c, l, d, m) -> c == 2);
        dueTruths("not shop.city not in (8, 5)", (s, c, l, d, m) -> c != 2);
        dueTruths("shop.land = 2", (s, c, l, d, m) -> l == 2);
        dueTruths("day.month = 2", (s, c, l, d, m) -> m == 2);
        dueTruths("day.day >= -1", (s, c, l, d, m) -> true);
    }

    private static void edgesOfInts() {
        QuestionReader reader = new QuestionReader();
        Probe.run(reader, "dimension a(x);measure m;member a(2147483647),(-2147483648),(0);");
        reader.open();
        int[] values = {Integer.MIN_VALUE, 0, Integer.MAX_VALUE};
        for (int value : values) {
            for (int place = 0; place < 3; place++) {
                reader.pick(0, place);
                dueHolds(reader, "a.x = " + value, values[place] == value);
                dueHolds(reader, "a.x <> " + value, values[place] != value);
                dueHolds(reader, "a.x < " + value, values[place] < value);
                dueHolds(reader, "a.x <= " + value, values[place] <= value);
                dueHolds(reader, "a.x > " + value, values[place] > value);
                dueHolds(reader, "a.x >= " + value, values[place] >= value);
            }
        }
    }

    private static void bindings() {
        dueTruths("shop.store = 3 or shop.city = 8 and day.month = 2",
                (s, c, l, d, m) -> s == 3 || c == 8 && m == 2);
        dueTruths("shop.city = 8 and day.month = 2 or shop.store = 3",
                (s, c, l, d, m) -> c == 8 && m == 2 || s == 3);
        dueTruths("(shop.store = 3 or shop.city = 8) and day.month = 2",
                (s, c, l, d, m) -> (s == 3 || c == 8) && m == 2);
        dueTruths("day.month = 2 and (shop.store = 3 or shop.city = 8)",
                (s, c, l, d, m) -> m == 2 && (s == 3 || c == 8));
        dueTruths("not shop.land = 1 and day.month = 1", (s, c, l, d, m) -> l != 1 && m == 1);
        dueTruths("not shop.land = 1 or day.month = 1", (s, c, l, d, m) -> l != 1 || m == 1);
        dueTruths("not (shop.land = 1 and day.month = 1)", (s, c, l, d, m) -> !(l == 1 && m == 1));
        dueTruths("not (shop.land = 1 or day.month = 1)", (s, c, l, d, m) -> !(l == 1 || m == 1));
        dueTruths("not not shop.land = 1", (s, c, l, d, m) -> l == 1);
        dueTruths("not not not shop.land = 1", (s, c, l, d, m) -> l != 1);
        dueTruths("not (not (shop.land = 1))", (s, c, l, d, m) -> l == 1);
        dueTruths("not (not shop.land = 1 or not (day.day = 1))",
                (s, c, l, d, m) -> l == 1 && d == 1);
        dueTruths("day.day between 1 and 15 and shop.store between 4 and 7 or shop.store = 9",
                (s, c, l, d, m) -> d <= 15 && s >= 4 && s <= 7 || s == 9);
        dueTruths("shop.store = 3 and day.day = 1 or shop.store = 4 and day.day = 15"
                + " or shop.store = 7 and not day.day = 31",
                (s, c, l, d, m) -> s == 3 && d == 1 || s == 4 && d == 15 || s == 7 && d != 31);
        dueTruths("((shop.store = 3) or ((shop.store = 4)) and (day.day = 1 or (day.day = 15)))",
                (s, c, l, d, m) -> s == 3 || s == 4 && (d == 1 || d == 15));
    }

    private static void depths() {
        dueTruths("not (".repeat(40) + "shop.land = 1" + ")".repeat(40),
                (s, c, l, d, m) -> l == 1);
        dueTruths("not (".repeat(39) + "shop.land = 1 or day.day = 1" + ")".repeat(39),
                (s, c, l, d, m) -> !(l == 1 || d == 1));
        dueTruths("not ".repeat(801) + "shop.land = 1", (s, c, l, d, m) -> l != 1);
        dueTruths("(shop.store=9 and ".repeat(30) + "(shop.land = 1 or "
                + "day.day=31 or ".repeat(28) + "day.day=1)" + ")".repeat(30),
                (s, c, l, d, m) -> s == 9);
        dueTruths("(day.day=31 or ".repeat(40) + "(shop.store=9)".substring(1) + ")".repeat(39),
                (s, c, l, d, m) -> s == 9 || d == 31);
    }

    private static void sixtyComparisons() {
        dueTruths("day.day=99 or ".repeat(59) + "shop.land=1", (s, c, l, d, m) -> l == 1);
        dueTruths("day.day<>99 and ".repeat(59) + "shop.land=1", (s, c, l, d, m) -> l == 1);
        dueTruths("shop.land=1" + " or day.day=99".repeat(59), (s, c, l, d, m) -> l == 1);
        dueTruths("day.day=99 or (day.day<>99 and ".repeat(29) + "day.day=1 or shop.land=1"
                + ")".repeat(29), (s, c, l, d, m) -> d == 1 || l == 1);
    }

    private static void state() {
        QuestionReader reader = new QuestionReader();
        probe.illegalState("new: holds", () -> reader.holds() ? 1 : 0);
        QuestionReader open = Probe.openReader();
        probe.illegalState("without a question: holds", () -> open.holds() ? 1 : 0);
        Probe.run(open, "select count(*);");
        probe.due("without where", open.holds(), true);
        Probe.run(open, "select count(*) where shop.store = 9;");
        probe.due("where", open.holds(), false);
        Probe.run(open, "select count(*);");
        probe.due("without where again", open.holds(), true);
        Probe.run(open, "select count(*) where shop.store = 9;select count(*) where shop.store = 3 or");
        probe.due("the question before the fault", open.holds(), false);
        Probe.run(open, "$");
        probe.illegalState("the question went: holds", () -> open.holds() ? 1 : 0);
    }

    private static void dueTruths(String condition, Truth truth) {
        QuestionReader reader = Probe.openReader();
        probe.right(reader, 1, "select count(*) where " + condition + ";");
        for (int shop = 0; shop < 4; shop++) {
            for (int day = 0; day < 3; day++) {
                reader.pick(0, shop);
                reader.pick(1, day);
                boolean due = truth.of(reader.value(0, 0, shop), reader.value(0, 1, shop),
                        reader.value(0, 2, shop), reader.value(1, 0, day), reader.value(1, 1, day));
                probe.due(condition + " at " + shop + ", " + day, reader.holds(), due);
            }
        }
    }

    private static void dueHolds(QuestionReader reader, String condition, boolean due) {
        Probe.run(reader, "select count(*) where " + condition + ";");
        probe.due(condition, reader.holds(), due);
    }
}
