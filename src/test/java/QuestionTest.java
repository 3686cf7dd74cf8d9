/** Promises 7 and 13 to 15: what is counted of a question, item, group, set. */
public final class QuestionTest {
    private static final Probe probe = new Probe();

    public static void main(String[] args) {
        items();
        groups();
        sets();
        setsOfOneGroup();
        withoutGroups();
        theQuestion();
        probe.end();
    }

    private static void items() {
        QuestionReader reader = Probe.openReader();
        probe.right(reader, 1, "select day.month, sum(n), min(price), max(n), count(*), "
                + "grouping(shop.land), shop.store group by day.month, shop.land, shop.store;");
        int[] types = {0, 1, 2, 3, 4, 5, 0};
        int[] targets = {5, 1, 0, 1, 0, 2, 0};
        probe.due("items", reader.count(3), types.length);
        for (int i = 0; i < types.length; i++) {
            probe.due("type of item " + i, reader.item(i, 0), types[i]);
            probe.due("target of item " + i, reader.item(i, 1), targets[i]);
        }
        probe.illegalArgument("item(7, 0)", () -> reader.item(7, 0));
        probe.illegalArgument("item(-1, 0)", () -> reader.item(-1, 0));
        probe.illegalArgument("item(0, 2)", () -> reader.item(0, 2));
        probe.illegalArgument("item(0, -1)", () -> reader.item(0, -1));
        probe.right(reader, 1, "select count(*);");
        probe.illegalArgument("item of the question before", () -> reader.item(1, 0));
    }

    private static void groups() {
        QuestionReader reader = Probe.openReader();
        probe.right(reader, 1, "select count(*) group by day.month, rollup(shop.land, shop.store),"
                + "cube(day.day);");
        int[] due = {5, 2, 0, 4};
        probe.due("group columns", reader.count(4), due.length);
        for (int k = 0; k < due.length; k++) {
            probe.due("group column " + k, reader.group(k), due[k]);
        }
        probe.illegalArgument("group(4)", () -> reader.group(4));
        probe.illegalArgument("group(-1)", () -> reader.group(-1));
    }

    private static void sets() {
        QuestionReader reader = Probe.openReader();
        probe.right(reader, 1, "select count(*) group by day.month, rollup(shop.land, shop.store),"
                + "cube(day.day, shop.city);");
        dueSets(reader, 31, 27, 25, 23, 19, 17, 15, 11, 9, 7, 3, 1);
        probe.right(reader, 1, "select count(*) group by cube(shop.city, shop.land), day.day,"
                + "rollup(day.month);");
        dueSets(reader, 15, 14, 13, 12, 7, 6, 5, 4);
    }

    private static void setsOfOneGroup() {
        QuestionReader reader = Probe.openReader();
        probe.right(reader, 1, "select count(*) group by shop.city;");
        dueSets(reader, 1);
        probe.right(reader, 1, "select count(*) group by shop.city, day.day, shop.store;");
        dueSets(reader, 7);
        probe.right(reader, 1, "select count(*) group by rollup(shop.city);");
        dueSets(reader, 1, 0);
        probe.right(reader, 1, "select count(*) group by rollup(shop.city, shop.store, day.day);");
        dueSets(reader, 7, 3, 1, 0);
        probe.right(reader, 1, "select count(*) group by cube(shop.city, shop.store);");
        dueSets(reader, 3, 2, 1, 0);
        probe.right(reader, 1, "select count(*) group by cube(shop.store,shop.city,shop.land,"
                + "day.day,day.month);");
        int[] all = new int[32];
        for (int i = 0; i < 32; i++) {
            all[i] = 31 - i;
        }
        dueSets(reader, all);
    }

    private static void withoutGroups() {
        QuestionReader reader = Probe.openReader();
        probe.right(reader, 1, "select count(*);");
        probe.due("group columns without group by", reader.count(4), 0);
        dueSets(reader, 0);
        probe.illegalArgument("group(0) without group by", () -> reader.group(0));
    }

    private static void dueSets(QuestionReader reader, int... due) {
        probe.due("grouping sets", reader.count(5), due.length);
        for (int i = 0; i < due.length; i++) {
            probe.due("grouping set " + i, reader.set(i), due[i]);
        }
        probe.illegalArgument("set behind the last", () -> reader.set(due.length));
        probe.illegalArgument("set(-1)", () -> reader.set(-1));
    }

    private static void theQuestion() {
        QuestionReader reader = Probe.openReader();
        probe.right(reader, 2, "select count(*) where day.day = 1 or day.day = 2;"
                + "select sum(n), min(n) where day.day = 1 group by day.day;");
        dueCounts(reader, 2, 1, 1, 1);
        Probe.feed(reader, "select count(*);");
        dueCounts(reader, 2, 1, 1, 1);
        reader.run();
        dueCounts(reader, 1, 0, 1, 0);
        probe.fault(reader, 1, Probe.NAME, "select max(n) where day.month in (1,2) and day.day < 5;"
                + "select count(*), min(n), min(n) where day.day = 1 group by shop.city, ^city;");
        dueCounts(reader, 1, 0, 1, 2);
        probe.due("the question before the fault", reader.item(0, 0), 3);
        probe.fault(reader, 0, Probe.OTHER, "select max(n) where day.month in (1,2)^)");
        dueNoQuestion(reader);
        probe.right(reader, 1, "select count(*);");
        probe.right(reader, 0, "");
        dueNoQuestion(reader);
        probe.right(reader, 1, "select count(*);");
        probe.fault(reader, 0, Probe.STATE, "^measure x;");
        dueNoQuestion(reader);
    }

    private static void dueNoQuestion(QuestionReader reader) {
        dueCounts(reader, 0, 0, 0, 0);
        probe.illegalArgument("item without a question", () -> reader.item(0, 0));
        probe.illegalArgument("group without a question", () -> reader.group(0));
        probe.illegalArgument("set without a question", () -> reader.set(0));
        probe.illegalState("holds without a question", () -> reader.holds() ? 1 : 0);
    }

    private static void dueCounts(QuestionReader reader, int... due) {
        for (int i = 0; i < due.length; i++) {
            probe.due("count(" + (3 + i) + ")", reader.count(3 + i), due[i]);
        }
    }
}
