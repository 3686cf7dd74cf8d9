/** Promise 5, fault, with all kinds of faults, their places, and which is asked first. */
public final class FaultTest {
    private static final Probe probe = new Probe();
    private static final String LONGEST = "a234567890123456789012345678901234567890";

    public static void main(String[] args) {
        face();
        signs();
        numbers();
        ends();
        trimmedEnds();
        statementBeginnings();
        dimensions();
        measures();
        members();
        keys();
        states();
        items();
        conditions();
        manyInConditions();
        groups();
        manyGroups();
        ungroupedItems();
        nothingElseIsCarriedOut();
        probe.end();
    }

    private static void face() {
        QuestionReader reader = new QuestionReader();
        probe.illegalArgument("fault(2)", () -> reader.fault(2));
        probe.illegalArgument("fault(-1)", () -> reader.fault(-1));
        probe.fault(reader, 0, Probe.OTHER, "  ^x");
        probe.due("fault stays as long as no other text runs", reader.fault(1), 2);
        Probe.feed(reader, "measure m;");
        probe.due("a fed text does not change it", reader.fault(0), Probe.OTHER);
        reader.run();
        probe.due("a right text does", reader.fault(0), 0);
        probe.due("and its place", reader.fault(1), -1);
    }

    private static void signs() {
        QuestionReader reader = Probe.openReader();
        for (int letter = 0; letter < 256; letter++) {
            boolean isBlank = letter == 9 || letter == 10 || letter == 13 || letter == 32;
            boolean isLetter = letter >= 'a' && letter <= 'z' || letter >= 'A' && letter <= 'Z';
            boolean begins = isLetter || letter >= '0' && letter <= '9'
                    || "(),;.*=<>".indexOf(letter) >= 0;
            int due = isBlank ? 0 : begins ? Probe.OTHER : Probe.SIGN;
            Probe.feed(reader, new byte[] {' ', (byte) letter});
            reader.run();
            probe.due("fault of byte " + letter, reader.fault(0), due);
            probe.due("place of byte " + letter, reader.fault(1), isBlank ? -1 : 1);
        }
        reader = Probe.openReader();
        probe.fault(reader, 0, Probe.SIGN, "select count(*) where day.day = ^-;");
        probe.fault(reader, 0, Probe.SIGN, "select count(*) where day.day = ^- 1;");
        probe.fault(reader, 0, Probe.SIGN, "select count(*) where day.day = ^--1;");
        probe.fault(reader, 0, Probe.SIGN, "select count(*) where day.day = 1^-;");
        probe.fault(reader, 0, Probe.SIGN, "select count(*) where day.day = ^+1;");
        probe.fault(reader, 0, Probe.SIGN, "select count(*) where day.day = 1^:");
        probe.fault(reader, 0, Probe.SIGN, "select count(*) where day.day = 1^/");
        probe.fault(reader, 0, Probe.SIGN, "select ^_x;");
        probe.fault(reader, 0, Probe.OTHER, "select count(*) where day.day = 1^-2;");
        probe.fault(reader, 0, Probe.OTHER, "select count(*) where day.day < ^= 1;");
        probe.fault(reader, 0, Probe.OTHER, "select count(*) where day.day = ^< 1;");
        probe.fault(reader, 0, Probe.OTHER, "select count(*) where day.day <>^= 1;");
        probe.fault(reader, 0, Probe.OTHER, "select count(*) where day.day <=^> 1;");
        probe.fault(reader, 0, Probe.OTHER, "select count(*) where day.day >^< 1;");
        probe.fault(reader, 0, Probe.OTHER, "select count(*) where day.day = 1^x;");
        probe.right(reader, 1, "select count(*)where day.day<-1;");
        probe.right(reader, 1, "select count(*)where day.day>=-1and shop.city<>2or day.day<=1;");
    }

    private static void numbers() {
        QuestionReader reader = Probe.openReader();
        String start = "select count(*) where day.day = ";
        probe.right(reader, 1, start + "2147483647;");
        probe.right(reader, 1, start + "-2147483648;");
        probe.right(reader, 1, start + "000000000000000000000000000012;");
        probe.right(reader, 1, start + "-0;");
        probe.fault(reader, 0, Probe.NUMBER, start + "^2147483648;");
        probe.fault(reader, 0, Probe.NUMBER, start + "^-2147483649;");
        probe.fault(reader, 0, Probe.NUMBER, start + "^-21474836480;");
        probe.fault(reader, 0, Probe.NUMBER, start + "^4294967296;");
        probe.fault(reader, 0, Probe.NUMBER, start + "^4294967297;");
        probe.fault(reader, 0, Probe.NUMBER, start + "^18446744073709551617;");
        probe.fault(reader, 0, Probe.NUMBER, start + "^-99999999999999999999999999999999999999;");
        probe.fault(reader, 0, Probe.NUMBER, "^9999999999;");
        probe.fault(reader, 0, Probe.NUMBER, "select ^9999999999;");
        probe.fault(reader, 0, Probe.NUMBER, "select count(*) ^9999999999;");
        probe.fault(reader, 0, Probe.OTHER, "select count(*) ^99;");
        probe.fault(reader, 0, Probe.OTHER, "select count(*) where day.day = 1^.5;");
    }

    private static void ends() {
        QuestionReader reader = new QuestionReader();
        probe.fault(reader, 0, Probe.END, "dimension^");
        probe.fault(reader, 0, Probe.END, "dimension d \n\t^");
        probe.fault(reader, 0, Probe.END, "dimension d(^");
        probe.fault(reader, 0, Probe.END, "dimension d(a^");
        probe.fault(reader, 0, Probe.END, "dimension d(a,^");
        probe.fault(reader, 0, Probe.END, "dimension d(a)^");
        probe.due("no dimension came of these", reader.count(0), 0);
        probe.fault(reader, 1, Probe.END, "measure m; measure k  ^");
        probe.right(reader, 1, "dimension d(x,y);");
        probe.fault(reader, 0, Probe.END, "member d(1,2),(3,^");
        probe.fault(reader, 0, Probe.END, "member d(1,2)^");
        QuestionReader open = Probe.openReader();
        probe.fault(open, 0, Probe.END, "select^");
        probe.fault(open, 0, Probe.END, "select count^");
        probe.fault(open, 0, Probe.END, "select count(*)   ^");
        probe.fault(open, 0, Probe.END, "select count(*) where^");
        probe.fault(open, 0, Probe.END, "select count(*) where (day.day = 1^");
        probe.fault(open, 0, Probe.END, "select count(*) where not^");
        probe.fault(open, 0, Probe.END, "select count(*) where day.day not^");
        probe.fault(open, 0, Probe.END, "select count(*) where day.day between 1^");
        probe.fault(open, 0, Probe.END, "select count(*) group^");
        probe.fault(open, 0, Probe.END, "select count(*) group by^");
        probe.fault(open, 0, Probe.END, "select shop.city group by day.day^");
        probe.right(open, 1, "select count(*);   ");
    }

    /** The bytes that went must not count, though each would go on with the text's last word. */
    private static void trimmedEnds() {
        trimmedEnd("measure abc", "defghijk;", Probe.END, 11);
        trimmedEnd("measure abc_1  ", " ;   ", Probe.END, 15);
        trimmedEnd("measure a", "           ", Probe.END, 9);
        trimmedEnd("dimension a(x);member a(12", "345678);", Probe.END, 26);
        trimmedEnd("dimension a(x);member a(-", "12345678);", Probe.SIGN, 24);
        trimmedEnd("dimension a(x);member a(<", "=12345678);", Probe.OTHER, 24);
        QuestionReader open = Probe.openReader();
        Probe.feed(open, "select count(*) where day.day <= 1;");
        open.trim(4);
        open.run();
        probe.due("fault of a trimmed sign", open.fault(0), Probe.END);
        Probe.feed(open, "select count(*) where day.day <=");
        open.trim(1);
        open.run();
        probe.due("fault of half a sign", open.fault(0), Probe.END);
        probe.due("place of half a sign", open.fault(1), 31);
    }

    private static void trimmedEnd(String text, String trimmed, int kind, int place) {
        QuestionReader reader = new QuestionReader();
        Probe.feed(reader, text + trimmed);
        reader.trim(trimmed.length());
        reader.run();
        probe.due("fault of trimmed " + text, reader.fault(0), kind);
        probe.due("place of trimmed " + text, reader.fault(1), place);
    }

    private static void statementBeginnings() {
        QuestionReader reader = new QuestionReader();
        probe.fault(reader, 0, Probe.OTHER, "^;");
        probe.fault(reader, 0, Probe.OTHER, "^5");
        probe.fault(reader, 0, Probe.OTHER, "^Measure m;");
        probe.fault(reader, 0, Probe.OTHER, "^group");
        probe.fault(reader, 0, Probe.OTHER, "^dimensions");
        probe.fault(reader, 0, Probe.OTHER, "^" + LONGEST + "1");
        probe.fault(reader, 1, Probe.OTHER, "measure m;^;");
    }

    private static void dimensions() {
        QuestionReader reader = new QuestionReader();
        probe.fault(reader, 0, Probe.OTHER, "dimension ^(a);");
        probe.fault(reader, 0, Probe.OTHER, "dimension ^5(a);");
        String[] reserved = {"dimension", "measure", "member", "select", "where", "group", "by",
            "rollup", "cube", "grouping", "sum", "count", "min", "max", "and", "or", "not",
            "between", "in"};
        for (String word : reserved) {
            probe.fault(reader, 0, Probe.NAME, "dimension ^" + word + "(a);");
            probe.fault(reader, 0, Probe.NAME, "dimension d(a,^" + word + ");");
            probe.fault(reader, 0, Probe.NAME, "measure ^" + word + ";");
        }
        probe.fault(reader, 0, Probe.NAME, "dimension ^" + LONGEST + "1(a);");
        probe.fault(reader, 0, Probe.NAME, "dimension d(^" + LONGEST + "1);");
        probe.fault(reader, 0, Probe.OTHER, "dimension d^;");
        probe.fault(reader, 0, Probe.OTHER, "dimension d(^);");
        probe.fault(reader, 0, Probe.OTHER, "dimension d(a ^b);");
        probe.fault(reader, 0, Probe.OTHER, "dimension d(a,^);");
        probe.fault(reader, 0, Probe.OTHER, "dimension d(a)^,");
        probe.fault(reader, 0, Probe.TAKEN, "dimension d(a,b,^a);");
        probe.fault(reader, 0, Probe.TAKEN, "dimension d(a,b,c,e,^a);");
        probe.fault(reader, 0, Probe.NAME, "dimension d(a,b,c,e,^by);");
        probe.fault(reader, 0, Probe.MANY, "dimension d(a,b,c,e,^f);");
        probe.fault(reader, 0, Probe.MANY, "dimension d(a,b,c,e,^d);");
        probe.right(reader, 1, "dimension d(d,b,c,D);");
        probe.fault(reader, 0, Probe.TAKEN, "dimension ^d(x);");
        probe.right(reader, 1, "dimension " + LONGEST + "(" + LONGEST + ",d,b);");
        probe.right(reader, 1, "measure b;");
        probe.fault(reader, 0, Probe.TAKEN, "dimension ^b(x);");
        probe.right(reader, 6,
                "dimension c(x);dimension e(x);dimension f(x);dimension g(x);dimension h(x);"
                + "dimension SELECT(x);");
        probe.fault(reader, 0, Probe.MANY, "dimension ^i(x);");
        probe.fault(reader, 0, Probe.TAKEN, "dimension ^h(x);");
        probe.fault(reader, 0, Probe.TAKEN, "dimension ^b(x);");
        probe.fault(reader, 0, Probe.NAME, "dimension ^in(x);");
        probe.fault(reader, 0, Probe.OTHER, "dimension ^,");
        probe.due("eight dimensions", reader.count(0), 8);
    }

    private static void measures() {
        QuestionReader reader = new QuestionReader();
        probe.fault(reader, 0, Probe.OTHER, "measure ^;");
        probe.fault(reader, 0, Probe.OTHER, "measure m^,k;");
        probe.right(reader, 2, "dimension a(x);measure x;");
        probe.fault(reader, 0, Probe.TAKEN, "measure ^a;");
        probe.fault(reader, 0, Probe.TAKEN, "measure ^x;");
        probe.right(reader, 7, "measure b;measure c;measure d;measure e;measure f;measure g;measure A;");
        probe.fault(reader, 0, Probe.MANY, "measure ^i;");
        probe.fault(reader, 0, Probe.TAKEN, "measure ^g;");
        probe.fault(reader, 0, Probe.NAME, "measure ^" + LONGEST + "1;");
        probe.due("eight measures", reader.count(1), 8);
    }

    private static void members() {
        QuestionReader reader = new QuestionReader();
        probe.right(reader, 3, "dimension a(x,y);dimension b(x);measure m;");
        probe.fault(reader, 0, Probe.NAME, "member ^c(1);");
        probe.fault(reader, 0, Probe.NAME, "member ^m(1);");
        probe.fault(reader, 0, Probe.NAME, "member ^x(1);");
        probe.fault(reader, 0, Probe.NAME, "member ^A(1);");
        probe.fault(reader, 0, Probe.NAME, "member ^select(1);");
        probe.fault(reader, 0, Probe.OTHER, "member ^(1);");
        probe.fault(reader, 0, Probe.OTHER, "member a^;");
        probe.fault(reader, 0, Probe.OTHER, "member a(^);");
        probe.fault(reader, 0, Probe.OTHER, "member a(^x);");
        probe.fault(reader, 0, Probe.OTHER, "member a(1 ^2);");
        probe.fault(reader, 0, Probe.OTHER, "member a(1,2)^(3,4);");
        probe.fault(reader, 0, Probe.OTHER, "member a(1,2),^;");
        probe.fault(reader, 0, Probe.MANY, "member a(1,2),^(3);");
        probe.fault(reader, 0, Probe.MANY, "member a^(1,2,3);");
        probe.fault(reader, 0, Probe.MANY, "member b^(1,2,3,4,5,6,7,8,9);");
        probe.fault(reader, 0, Probe.OTHER, "member b(1,2,3,4,5,6,7,8,^x);");
        probe.fault(reader, 0, Probe.NUMBER, "member a(1,2,3,^3333333333);");
        probe.fault(reader, 0, Probe.MANY, "member b^(" + "1,".repeat(60) + "1);");
        probe.due("no member came of these", reader.dimension(0, 1) + reader.dimension(1, 1), 0);
        StringBuilder thousand = new StringBuilder("member b(0)");
        for (int i = 1; i < 1000; i++) {
            thousand.append(",(").append(i).append(')');
        }
        probe.fault(reader, 0, Probe.MANY, thousand + ",^(1);");
        probe.fault(reader, 0, Probe.MANY, thousand + ",^(x");
        probe.right(reader, 1, thousand + ";");
        probe.due("a thousand members", reader.dimension(1, 1), 1000);
        probe.fault(reader, 0, Probe.MANY, "member b^(1000);");
        probe.fault(reader, 0, Probe.OTHER, "member b^;");
        probe.right(reader, 1, "member a(1,2);");
    }

    private static void keys() {
        QuestionReader reader = new QuestionReader();
        probe.right(reader, 2, "dimension a(x,y,z);member a(1,10,100),(2,10,100),(3,11,100);");
        probe.fault(reader, 0, Probe.KEY, "member a^(1,10,100);");
        probe.fault(reader, 0, Probe.KEY, "member a^(4,10,101);");
        probe.fault(reader, 0, Probe.KEY, "member a(4,12,101),^(5,11,101);");
        probe.fault(reader, 0, Probe.KEY, "member a(4,12,101),^(5,12,100);");
        probe.fault(reader, 0, Probe.KEY, "member a(4,12,101),^(4,12,101);");
        probe.fault(reader, 0, Probe.MANY, "member a^(1,10);");
        probe.fault(reader, 0, Probe.MANY, "member a^(1,10,100,5);");
        probe.fault(reader, 0, Probe.KEY, "member a^(1,10,100)$");
        probe.due("still three members", reader.dimension(0, 1), 3);
        probe.right(reader, 1, "member a(4,12,101),(5,13,101),(100,1,10),(10,100,1);");
        probe.due("now seven members", reader.dimension(0, 1), 7);
    }

    private static void states() {
        QuestionReader reader = new QuestionReader();
        probe.fault(reader, 0, Probe.STATE, "^select");
        probe.fault(reader, 0, Probe.OTHER, "^selected");
        reader = Probe.openReader();
        probe.fault(reader, 0, Probe.STATE, "^dimension");
        probe.fault(reader, 0, Probe.STATE, "^measure $;");
        probe.fault(reader, 0, Probe.STATE, "^member shop(5,2,1);");
        probe.fault(reader, 1, Probe.STATE, "select count(*);^measure x;");
        probe.fault(reader, 0, Probe.OTHER, "^measures");
        probe.fault(reader, 0, Probe.OTHER, "^;");
    }

    private static void items() {
        QuestionReader reader = Probe.openReader();
        probe.fault(reader, 0, Probe.OTHER, "select ^;");
        probe.fault(reader, 0, Probe.OTHER, "select ^*;");
        probe.fault(reader, 0, Probe.OTHER, "select ^(shop.city);");
        probe.fault(reader, 0, Probe.NAME, "select ^where;");
        probe.fault(reader, 0, Probe.NAME, "select ^rollup(shop.city);");
        probe.fault(reader, 0, Probe.NAME, "select ^" + LONGEST + "1;");
        probe.fault(reader, 0, Probe.NAME, "select ^price;");
        probe.fault(reader, 0, Probe.NAME, "select ^city.shop;");
        probe.fault(reader, 0, Probe.OTHER, "select shop^;");
        probe.fault(reader, 0, Probe.OTHER, "select shop.^5;");
        probe.fault(reader, 0, Probe.NAME, "select shop.^month;");
        probe.fault(reader, 0, Probe.NAME, "select shop.^shop;");
        probe.fault(reader, 0, Probe.NAME, "select shop.^by;");
        probe.fault(reader, 0, Probe.NAME, "select shop.^" + LONGEST + "1;");
        probe.fault(reader, 0, Probe.OTHER, "select sum ^price;");
        probe.fault(reader, 0, Probe.NAME, "select sum(^shop);");
        probe.fault(reader, 0, Probe.NAME, "select min(^in);");
        probe.fault(reader, 0, Probe.OTHER, "select max(^*);");
        probe.fault(reader, 0, Probe.OTHER, "select sum(price^,");
        probe.fault(reader, 0, Probe.OTHER, "select count(^price);");
        probe.fault(reader, 0, Probe.OTHER, "select count(*^*");
        probe.fault(reader, 0, Probe.NAME, "select grouping(^price);");
        probe.fault(reader, 0, Probe.OTHER, "select grouping(^*);");
        probe.fault(reader, 0, Probe.OTHER, "select grouping(shop^)");
        probe.fault(reader, 0, Probe.OTHER, "select grouping(shop.city^.");
        probe.fault(reader, 0, Probe.OTHER, "select count(*),^;");
        probe.fault(reader, 0, Probe.OTHER, "select count(*) ^count(*);");
        probe.fault(reader, 0, Probe.OTHER, "select count(*) ^and;");
        probe.fault(reader, 0, Probe.OTHER, "select count(*) ^" + LONGEST + "1;");
        String full = "select " + "count(*),".repeat(24);
        probe.right(reader, 1, "select " + "count(*),".repeat(23) + "sum(n);");
        probe.due("twenty-four items", reader.count(3), 24);
        probe.fault(reader, 0, Probe.MANY, full + "^count(*);");
        probe.fault(reader, 0, Probe.MANY, full + "^sum $");
        probe.fault(reader, 0, Probe.MANY, full + "^shop");
        probe.fault(reader, 0, Probe.NAME, full + "^price");
        probe.fault(reader, 0, Probe.NAME, full + "^where");
        probe.fault(reader, 0, Probe.OTHER, full + "^;");
        probe.fault(reader, 0, Probe.SIGN, full + "^$");
        probe.fault(reader, 0, Probe.END, full + "^");
    }

    private static void conditions() {
        QuestionReader reader = Probe.openReader();
        String start = "select count(*) where ";
        probe.fault(reader, 0, Probe.OTHER, start + "^;");
        probe.fault(reader, 0, Probe.OTHER, start + "^);");
        probe.fault(reader, 0, Probe.OTHER, start + "^5 = 5;");
        probe.fault(reader, 0, Probe.NAME, start + "^and;");
        probe.fault(reader, 0, Probe.NAME, start + "^in (1);");
        probe.fault(reader, 0, Probe.NAME, start + "not ^group;");
        probe.fault(reader, 0, Probe.NAME, start + "(^or);");
        probe.fault(reader, 0, Probe.NAME, start + "^price = 1;");
        probe.fault(reader, 0, Probe.OTHER, start + "not ^;");
        probe.fault(reader, 0, Probe.OTHER, start + "(^);");
        probe.fault(reader, 0, Probe.OTHER, start + "day.day ^;");
        probe.fault(reader, 0, Probe.OTHER, start + "day.day ^5;");
        probe.fault(reader, 0, Probe.OTHER, start + "day.day ^and;");
        probe.fault(reader, 0, Probe.OTHER, start + "day.day ^foo;");
        probe.fault(reader, 0, Probe.OTHER, start + "day.day ^(1);");
        probe.fault(reader, 0, Probe.OTHER, start + "day.day = ^day.day;");
        probe.fault(reader, 0, Probe.OTHER, start + "day.day not ^between 1 and 2;");
        probe.fault(reader, 0, Probe.OTHER, start + "day.day not ^= 1;");
        probe.fault(reader, 0, Probe.OTHER, start + "day.day between ^and 2;");
        probe.fault(reader, 0, Probe.OTHER, start + "day.day between 1 ^, 2;");
        probe.fault(reader, 0, Probe.OTHER, start + "day.day between 1 and ^day.day = 2;");
        probe.fault(reader, 0, Probe.OTHER, start + "day.day in ^1;");
        probe.fault(reader, 0, Probe.OTHER, start + "day.day in (^);");
        probe.fault(reader, 0, Probe.OTHER, start + "day.day in (1,^);");
        probe.fault(reader, 0, Probe.OTHER, start + "day.day in (1 ^2);");
        probe.fault(reader, 0, Probe.OTHER, start + "day.day in (1^;");
        probe.fault(reader, 0, Probe.OTHER, start + "day.day = 1^);");
        probe.fault(reader, 0, Probe.OTHER, start + "(day.day = 1)^);");
        probe.fault(reader, 0, Probe.OTHER, start + "((day.day = 1)^;");
        probe.fault(reader, 0, Probe.OTHER, start + "(day.day = 1 ^group by day.day;");
        probe.fault(reader, 0, Probe.OTHER, start + "day.day = 1 and ^;");
        probe.fault(reader, 0, Probe.NAME, start + "day.day = 1 or ^and;");
        probe.fault(reader, 0, Probe.OTHER, start + "day.day = 1 ^not day.day = 1;");
        probe.fault(reader, 0, Probe.OTHER, start + "day.day = 1 ^where day.day = 1;");
        probe.fault(reader, 0, Probe.OTHER, start + "day.day = 1 ^, day.day = 1;");
        probe.fault(reader, 0, Probe.OTHER, start + "(day.day^) = 1;");
    }

    private static void manyInConditions() {
        String start = "select count(*) where ";
        QuestionReader reader = Probe.openReader();
        String sixty = start + "day.day=1 or ".repeat(60);
        probe.right(reader, 1, start + "day.day=1 or ".repeat(59) + "day.day in (1);");
        probe.due("sixty comparisons", reader.count(6), 60);
        probe.fault(reader, 0, Probe.MANY, sixty + "^day.day=1;");
        probe.fault(reader, 0, Probe.MANY, sixty + "not (^day $");
        probe.fault(reader, 0, Probe.NAME, sixty + "^days");
        probe.fault(reader, 0, Probe.OTHER, sixty + "^;");
        reader = Probe.openReader();
        String forty = start + "day.day in (" + "1,".repeat(39) + "2";
        probe.right(reader, 1, forty + ");");
        probe.fault(reader, 0, Probe.MANY, forty + ",^3);");
        probe.fault(reader, 0, Probe.MANY, forty + ",^3$");
        probe.fault(reader, 0, Probe.OTHER, forty + ",^);");
        probe.fault(reader, 0, Probe.NUMBER, forty + ",^2147483648);");
        probe.right(reader, 1, forty + ") and day.day not in (" + "1,".repeat(39) + "2);");
        reader = Probe.openReader();
        String deep = start + "(".repeat(40);
        probe.right(reader, 1, deep + "day.day = 1" + ")".repeat(40) + ";");
        probe.right(reader, 1, deep + "day.day in (1)" + ")".repeat(40) + ";");
        probe.right(reader, 1, deep + "day.day = 1" + ")".repeat(40) + " and "
                + "(not ".repeat(40) + "day.day = 1" + ")".repeat(40) + ";");
        probe.right(reader, 1, deep + "day.day = 1) or (day.day = 1" + ")".repeat(40) + ";");
        probe.fault(reader, 0, Probe.MANY, deep + "^(day.day = 1" + ")".repeat(41) + ";");
        probe.fault(reader, 0, Probe.MANY, deep + "^($");
        probe.fault(reader, 0, Probe.MANY, deep + "day.day = 1) or (not ^(");
        probe.fault(reader, 0, Probe.OTHER, deep + "day.day = 1" + ")".repeat(40) + "^)");
        probe.fault(reader, 0, Probe.OTHER, deep + "day.day = 1" + ")".repeat(39) + "^;");
        probe.right(reader, 1, start + "not ".repeat(1000) + "day.day = 1;");
    }

    private static void groups() {
        QuestionReader reader = Probe.openReader();
        String start = "select count(*) group ";
        probe.fault(reader, 0, Probe.OTHER, start + "^shop.city;");
        probe.fault(reader, 0, Probe.OTHER, start + "^;");
        probe.fault(reader, 0, Probe.OTHER, start + "by ^;");
        probe.fault(reader, 0, Probe.OTHER, start + "by ^(shop.city);");
        probe.fault(reader, 0, Probe.NAME, start + "by ^sum(price);");
        probe.fault(reader, 0, Probe.NAME, start + "by ^price;");
        probe.fault(reader, 0, Probe.NAME, start + "by ^by;");
        probe.fault(reader, 0, Probe.NAME, start + "by shop.^day;");
        probe.fault(reader, 0, Probe.OTHER, start + "by shop^,");
        probe.fault(reader, 0, Probe.OTHER, start + "by shop.city,^;");
        probe.fault(reader, 0, Probe.OTHER, start + "by rollup ^shop.city;");
        probe.fault(reader, 0, Probe.OTHER, start + "by rollup(^);");
        probe.fault(reader, 0, Probe.NAME, start + "by rollup(^cube(shop.city));");
        probe.fault(reader, 0, Probe.OTHER, start + "by cube(shop.city,^);");
        probe.fault(reader, 0, Probe.OTHER, start + "by cube(shop.city^;");
        probe.fault(reader, 0, Probe.OTHER, start + "by cube(shop.city)^)");
        probe.fault(reader, 0, Probe.OTHER, start + "by shop.city ^where day.day = 1;");
        probe.fault(reader, 0, Probe.OTHER, start + "by shop.city ^group by day.day;");
        probe.fault(reader, 0, Probe.TWICE, start + "by shop.city,^shop.city;");
        probe.fault(reader, 0, Probe.TWICE, start + "by rollup(shop.city,shop.land),^shop.land$");
        probe.fault(reader, 0, Probe.TWICE, start + "by cube(shop.city,^shop . city $");
        probe.fault(reader, 0, Probe.NAME, start + "by shop.city,shop.^cities;");
        probe.fault(reader, 0, Probe.OTHER, start + "by shop.city,shop^,city;");
    }

    private static void manyGroups() {
        QuestionReader reader = new QuestionReader();
        probe.right(reader, 7, "dimension a(x,y,z,t);dimension b(x,y,z,t);dimension c(x);measure m;"
                + "member a(1,1,1,1);member b(1,1,1,1);member c(1);");
        probe.due("opens", reader.open(), true);
        String eight = "a.x,a.y,a.z,a.t,b.x,b.y,b.z,b.t";
        probe.right(reader, 1, "select count(*) group by " + eight + ";");
        probe.fault(reader, 0, Probe.MANY, "select count(*) group by " + eight + ",^c.x;");
        probe.fault(reader, 0, Probe.MANY, "select count(*) group by " + eight + ",^a.x;");
        probe.fault(reader, 0, Probe.MANY, "select count(*) group by " + eight + ",^c $");
        probe.fault(reader, 0, Probe.MANY, "select count(*) group by " + eight + ",cube(^c.x);");
        probe.fault(reader, 0, Probe.MANY, "select count(*) group by rollup(" + eight + ",^c.x);");
        probe.fault(reader, 0, Probe.NAME, "select count(*) group by " + eight + ",^d.x;");
        probe.fault(reader, 0, Probe.NAME, "select count(*) group by " + eight + ",^select;");
        probe.fault(reader, 0, Probe.OTHER, "select count(*) group by " + eight + ",^;");
        probe.fault(reader, 0, Probe.OTHER, "select count(*) group by " + eight + ",cube^,");
        probe.right(reader, 1, "select count(*) group by rollup(" + eight + ");");
        probe.right(reader, 1, "select count(*) group by cube(a.x,a.y,a.z,a.t,b.x),b.y,b.z;");
        probe.fault(reader, 0, Probe.MANY, "select count(*) ^group by cube(a.x,a.y,a.z,a.t,b.x,b.y)$");
        probe.fault(reader, 0, Probe.SIGN, "select count(*) group by cube(a.x,a.y,a.z,a.t,b.x,b.y^$");
        probe.fault(reader, 0, Probe.MANY,
                "select count(*) ^group by rollup(a.x,a.y,a.z,a.t,b.x),cube(b.y,b.z,b.t)$");
        probe.fault(reader, 0, Probe.MANY,
                "select count(*) ^group by cube(a.x,a.y,a.z,a.t,b.x),b.y,rollup(b.z) x");
        probe.fault(reader, 0, Probe.TWICE,
                "select count(*) group by cube(a.x,a.y,a.z,a.t,b.x),rollup(b.z,^a.x);");
        probe.right(reader, 1, "select count(*) group by rollup(a.x),rollup(a.y),rollup(a.z),"
                + "rollup(a.t),rollup(b.x);");
        probe.fault(reader, 0, Probe.MANY, "select count(*) ^group by rollup(a.x),rollup(a.y),"
                + "rollup(a.z),rollup(a.t),rollup(b.x),rollup(b.y);");
    }

    private static void ungroupedItems() {
        QuestionReader reader = Probe.openReader();
        probe.fault(reader, 0, Probe.GROUP, "select ^shop.city;");
        probe.fault(reader, 0, Probe.GROUP, "select count(*), ^grouping(shop.city), shop.city;");
        probe.fault(reader, 0, Probe.GROUP, "select shop.city, ^shop.land, day.day group by shop.city;");
        probe.fault(reader, 0, Probe.GROUP, "select ^grouping(day.day) group by rollup(day.month);");
        probe.fault(reader, 0, Probe.OTHER, "select shop.city^.");
        probe.fault(reader, 0, Probe.END, "select shop.city ^");
        probe.fault(reader, 0, Probe.TWICE, "select shop.city group by day.day, ^day.day;");
        probe.fault(reader, 1, Probe.GROUP, "select count(*); select ^shop.city;");
        probe.right(reader, 1, "select shop.city, grouping(shop.city), shop.city group by cube(shop.city);");
    }

    private static void nothingElseIsCarriedOut() {
        QuestionReader reader = new QuestionReader();
        probe.fault(reader, 2, Probe.OTHER, "dimension d(x);measure m;measure ^5;member d(1);$");
        probe.due("one dimension", reader.count(0), 1);
        probe.due("one measure", reader.count(1), 1);
        probe.due("no member", reader.dimension(0, 1), 0);
        probe.fault(reader, 1, Probe.KEY, "member d(1);member d(2),^(1);member d(3);");
        probe.due("one member", reader.dimension(0, 1), 1);
        probe.due("it is the first", reader.value(0, 0, 0), 1);
        probe.due("opens", reader.open(), true);
        probe.fault(reader, 2, Probe.NAME,
                "select count(*);select sum(m) where d.x = 1;select sum(^d);select count(*);");
        probe.due("the second question stays", reader.item(0, 0), 1);
        probe.due("with its condition", reader.count(6), 1);
    }
}
