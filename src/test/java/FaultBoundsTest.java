import java.util.List;

/** The document's sentences about faults: what may stand where, which fault is asked first, and its place. */
public final class FaultBoundsTest {
    private static final Bounds bounds = new Bounds();
    private static final String TOO_LONG = "a".repeat(41);
    private static final String[] RESERVED = {"dimension", "measure", "member", "select", "where", "group",
        "by", "rollup", "cube", "grouping", "sum", "count", "min", "max", "and", "or", "not", "between", "in"};
    private static final String[] SIGNS = {"(", ")", ",", ";", ".", "*", "=", "<", ">", "<=", ">=", "<>"};
    private static final String[] BYTES = {"$", "-", "_", "\u0000", "\u007f", "\u0080", "\u00ff", "#", "-a", "+1",
        "\"", "'", "/", ":", "@", "[", "`", "{"};
    private static final String[] NUMBERS = {"1", "-1", "0"};
    private static final String[] NO_INTS = {"2147483648", "-2147483649", "99999999999999999999"};
    /** Names that are new to the reader that was told, and all names with those that it has. */
    private static final String NEW_NAMES = "c x y z p shop day store city land month price n nothing Select SUM";
    private static final String NAMES = "a b m " + NEW_NAMES;

    /** What a word is where none fits: a fault of its name where a name must stand, OTHER elsewhere. */
    private static final int NAMED = Probe.NAME;
    private static final int UNNAMED = Probe.OTHER;

    private static final Bounds.Maker TOLD = Bounds.told("dimension a(x,y);dimension b(z);measure m;");
    private static final String Q = "select count(*) ";
    private static final String COLUMN_START = "shop day";
    private static final String CONDITION_START = "not ( shop day";
    private static final String ITEM_START = "sum min max count grouping shop day";
    private static final String RELATIONS = "= <> < <= > >= between in not";

    public static void main(String[] args) {
        whatStandsInCatalogStatements();
        whatStandsInItems();
        whatStandsInConditions();
        whatStandsInGroups();
        statementBeginnings();
        endWithinAStatement();
        firstFaultCounts();
        placeOfTheFault();
        stateBehindOther();
        nameBeforeMany();
        takenBeforeMany();
        manyBeforeTwice();
        manyBeforeKey();
        keyAskedAtTheEndBracket();
        whatWasBeforeStays();
        bounds.end();
    }

    private static void whatStandsInCatalogStatements() {
        bounds.sentence("OTHER: another word, number or sign must stand there; NAME: .. where a name must stand");
        position(TOLD, "dimension", NEW_NAMES, NAMED, "a", "b", "m");
        position(TOLD, "dimension c", "(", UNNAMED);
        position(TOLD, "dimension c (", NAMES, NAMED);
        position(TOLD, "dimension c ( p", ", )", UNNAMED);
        position(TOLD, "dimension c ( p ,", NAMES, NAMED, "p");
        position(TOLD, "dimension c ( p )", ";", UNNAMED);
        position(TOLD, "measure", NEW_NAMES, NAMED, "a", "b", "m");
        position(TOLD, "measure c", ";", UNNAMED);
        position(TOLD, "member", "a b", NAMED);
        position(TOLD, "member a", "(", UNNAMED);
        position(TOLD, "member a (", "1 -1 0", UNNAMED);
        position(TOLD, "member a ( 1", ",", UNNAMED, ")");
        position(TOLD, "member a ( 1 ,", "1 -1 0", UNNAMED);
        position(TOLD, "member a ( 1 , 1", ", )", UNNAMED);
        position(TOLD, "member a ( 1 , 1 )", ", ;", UNNAMED);
        position(TOLD, "member a ( 1 , 1 ) ,", "(", UNNAMED);
        position(TOLD, "member a ( 1 , 1 ) , (", "1 -1 0", UNNAMED);
        position(TOLD, "member b ( 1 ) , ( 2", ", )", UNNAMED);
    }

    private static void whatStandsInItems() {
        position(Bounds.OPEN, "select", ITEM_START, NAMED);
        for (String word : new String[] {"sum", "min", "max"}) {
            position(Bounds.OPEN, "select " + word, "(", UNNAMED);
            position(Bounds.OPEN, "select " + word + " (", "price n", NAMED);
            position(Bounds.OPEN, "select " + word + " ( n", ")", UNNAMED);
        }
        position(Bounds.OPEN, "select count", "(", UNNAMED);
        position(Bounds.OPEN, "select count (", "*", UNNAMED);
        position(Bounds.OPEN, "select count ( *", ")", UNNAMED);
        position(Bounds.OPEN, "select grouping", "(", UNNAMED);
        position(Bounds.OPEN, "select grouping (", COLUMN_START, NAMED);
        position(Bounds.OPEN, "select grouping ( day", ".", UNNAMED);
        position(Bounds.OPEN, "select grouping ( day .", "day month", NAMED);
        position(Bounds.OPEN, "select grouping ( day . day", ")", UNNAMED);
        position(Bounds.OPEN, "select shop", ".", UNNAMED);
        position(Bounds.OPEN, "select shop .", "store city land", NAMED);
        position(Bounds.OPEN, "select shop . city", ", where group", UNNAMED, ";");
        position(Bounds.OPEN, "select count ( * )", ", where group ;", UNNAMED);
        position(Bounds.OPEN, "select count ( * ) ,", ITEM_START, NAMED);
    }

    private static void whatStandsInConditions() {
        String where = Q + "where";
        position(Bounds.OPEN, where, CONDITION_START, NAMED);
        position(Bounds.OPEN, where + " not", CONDITION_START, NAMED);
        position(Bounds.OPEN, where + " not not", CONDITION_START, NAMED);
        position(Bounds.OPEN, where + " (", CONDITION_START, NAMED);
        position(Bounds.OPEN, where + " not (", CONDITION_START, NAMED);
        position(Bounds.OPEN, where + " day", ".", UNNAMED);
        position(Bounds.OPEN, where + " day .", "day month", NAMED);
        position(Bounds.OPEN, where + " day . day", RELATIONS, UNNAMED);
        for (String sign : new String[] {"=", "<>", "<", "<=", ">", ">=", "between"}) {
            position(Bounds.OPEN, where + " day . day " + sign, "1 -1 0", UNNAMED);
        }
        position(Bounds.OPEN, where + " day . day between 1", "and", UNNAMED);
        position(Bounds.OPEN, where + " day . day between 1 and", "1 -1 0", UNNAMED);
        position(Bounds.OPEN, where + " day . day not", "in", UNNAMED);
        for (String in : new String[] {"in", "not in"}) {
            String list = where + " day . day " + in;
            position(Bounds.OPEN, list, "(", UNNAMED);
            position(Bounds.OPEN, list + " (", "1 -1 0", UNNAMED);
            position(Bounds.OPEN, list + " ( 1", ", )", UNNAMED);
            position(Bounds.OPEN, list + " ( 1 ,", "1 -1 0", UNNAMED);
            position(Bounds.OPEN, list + " ( 1 )", "and or group ;", UNNAMED);
        }
        position(Bounds.OPEN, where + " day . day = 1", "and or group ;", UNNAMED);
        position(Bounds.OPEN, where + " day . day between 1 and 2", "and or group ;", UNNAMED);
        position(Bounds.OPEN, where + " ( day . day = 1", "and or )", UNNAMED);
        position(Bounds.OPEN, where + " ( day . day in ( 1 )", "and or )", UNNAMED);
        position(Bounds.OPEN, where + " ( ( day . day = 1 )", "and or )", UNNAMED);
        position(Bounds.OPEN, where + " ( day . day = 1 )", "and or group ;", UNNAMED);
        position(Bounds.OPEN, where + " day . day = 1 and", CONDITION_START, NAMED);
        position(Bounds.OPEN, where + " day . day = 1 or", CONDITION_START, NAMED);
        position(Bounds.OPEN, where + " ( day . day = 1 and", CONDITION_START, NAMED);
    }

    private static void whatStandsInGroups() {
        String group = Q + "group";
        position(Bounds.OPEN, group, "by", UNNAMED);
        position(Bounds.OPEN, Q + "where day . day = 1 group", "by", UNNAMED);
        position(Bounds.OPEN, group + " by", "rollup cube " + COLUMN_START, NAMED);
        position(Bounds.OPEN, group + " by shop", ".", UNNAMED);
        position(Bounds.OPEN, group + " by shop .", "store city land", NAMED);
        position(Bounds.OPEN, group + " by shop . city", ", ;", UNNAMED);
        position(Bounds.OPEN, group + " by shop . city ,", "rollup cube " + COLUMN_START, NAMED);
        for (String shape : new String[] {"rollup", "cube"}) {
            String by = group + " by " + shape;
            position(Bounds.OPEN, by, "(", UNNAMED);
            position(Bounds.OPEN, by + " (", COLUMN_START, NAMED);
            position(Bounds.OPEN, by + " ( day", ".", UNNAMED);
            position(Bounds.OPEN, by + " ( day .", "day month", NAMED);
            position(Bounds.OPEN, by + " ( day . day", ", )", UNNAMED);
            position(Bounds.OPEN, by + " ( day . day ,", COLUMN_START, NAMED);
            position(Bounds.OPEN, by + " ( day . day )", ", ;", UNNAMED);
            position(Bounds.OPEN, by + " ( day . day ) ,", "rollup cube " + COLUMN_START, NAMED);
        }
    }

    private static void statementBeginnings() {
        bounds.sentence("at a statement's beginning all words but its four are OTHER");
        position(TOLD, "", "dimension measure member", UNNAMED, "select");
        position(TOLD, "measure c ;", "dimension measure member", UNNAMED, "select");
        position(Bounds.OPEN, "", "select", UNNAMED, "dimension", "measure", "member");
        position(Bounds.OPEN, "select count ( * ) ;", "select", UNNAMED, "dimension", "measure", "member");
    }

    /**
     * Puts every kind of word, number and sign behind a beginning. Those that fit go on: there the text
     * ends within the statement, or a ; ends it. Those left out have a fault of their own, asked elsewhere.
     */
    private static void position(Bounds.Maker maker, String before, String fitting, int ofWords,
            String... leftOut) {
        List<String> fits = List.of(fitting.split(" "));
        List<String> out = List.of(leftOut);
        String start = before.isEmpty() ? "" : before + " ";
        int place = start.length();
        for (String[] tokens : new String[][] {RESERVED, SIGNS, NUMBERS, NAMES.split(" "), {TOO_LONG}}) {
            for (String token : tokens) {
                if (out.contains(token)) {
                    continue;
                }
                boolean isWord = Character.isLetter(token.charAt(0));
                if (!fits.contains(token)) {
                    bounds.fault(maker, isWord ? ofWords : Probe.OTHER, place, start + token);
                } else if (token.equals(";")) {
                    bounds.right(maker, 1, start + token);
                } else {
                    bounds.fault(maker, Probe.END, place + token.length(), start + token);
                }
            }
        }
        for (String token : BYTES) {
            bounds.fault(maker, Probe.SIGN, place, start + token);
        }
        for (String token : NO_INTS) {
            bounds.fault(maker, Probe.NUMBER, place, start + token);
        }
        if (!before.isEmpty() && !before.endsWith(";")) {
            bounds.fault(maker, Probe.END, place, start);
        }
    }

    private static void endWithinAStatement() {
        bounds.sentence("END: the text ends within a statement; its place: how many bytes it has (blanks with them)");
        String[] told = {"dimension c ( p , q , r , s ) ;", "measure c ;",
            "member a ( 1 , 2 ) , ( -3 , 4 ) ;"};
        for (String statement : told) {
            everyBeginning(TOLD, statement);
        }
        everyBeginning(Bounds.OPEN, "select shop . city , sum ( n ) , min ( n ) , max ( price ) , count ( * ) ,"
                + " grouping ( shop . city ) where not ( day . day = 1 or shop . city not in ( 1 , 2 ) ) and day ."
                + " month between 1 and 5 or shop . land in ( 3 ) and day . day <> -1 group by shop . city ,"
                + " rollup ( day . day , day . month ) , cube ( shop . store ) ;");
        bounds.faulty(TOLD, 1, "measure c;", Probe.END, "measure^");
        bounds.faulty(TOLD, 1, "measure c; \n", Probe.END, "measure d \n\t\r ^");
        bounds.right(TOLD, 1, "measure c;");
        bounds.right(TOLD, 1, "measure c; \n\t\r ");
    }

    private static void everyBeginning(Bounds.Maker maker, String statement) {
        String[] tokens = statement.split(" ");
        StringBuilder text = new StringBuilder();
        for (int i = 0; i < tokens.length - 1; i++) {
            text.append(i == 0 ? "" : " ").append(tokens[i]);
            bounds.faulty(maker, Probe.END, text + "^");
            bounds.faulty(maker, Probe.END, text + "  \t\n\r ^");
        }
        bounds.right(maker, 1, statement);
        bounds.right(maker, 1, statement + "  \t\n\r ");
    }

    private static void firstFaultCounts() {
        bounds.sentence("The first one as the text is read counts");
        bounds.faulty(TOLD, Probe.OTHER, "measure ^5 $ 9999999999 a;");
        bounds.faulty(TOLD, Probe.SIGN, "measure ^$ 5;");
        bounds.faulty(TOLD, Probe.TAKEN, "measure ^a 5;");
        bounds.faulty(TOLD, Probe.TAKEN, "dimension ^a(x,x);");
        bounds.faulty(Bounds.OPEN, Probe.NAME, "select ^nothing, $ where;");
        bounds.faulty(Bounds.OPEN, Probe.NUMBER, "select shop.city where day.day = ^2147483648 group by;");
        // Where a fault is asked counts, not its place: these would be told of an earlier byte.
        bounds.faulty(TOLD, Probe.SIGN, "member a(1,1,1^$");
        bounds.faulty(TOLD, Probe.NUMBER, "member a(1,1,1,^2147483648);");
        bounds.faulty(TOLD, Probe.OTHER, "member a(1,1),(1,1^;");
        bounds.faulty(Bounds.OPEN, Probe.NAME, "select shop.city where ^nothing = 1;");
        bounds.faulty(Bounds.OPEN, Probe.SIGN, "select shop.city^$;");
        bounds.faulty(Bounds.OPEN, Probe.OTHER, "select shop.city group by day.day^)");
    }

    private static void placeOfTheFault() {
        bounds.sentence("Its PLACE is the byte (from 0) where the word, number or sign begins");
        bounds.faulty(TOLD, Probe.OTHER, "^5");
        bounds.faulty(TOLD, Probe.SIGN, "^$");
        bounds.faulty(TOLD, Probe.NUMBER, "^-99999999999");
        bounds.faulty(TOLD, Probe.OTHER, " \t\r\n^word");
        bounds.faulty(TOLD, 1, "measure c;", Probe.OTHER, "^<>");
        bounds.faulty(TOLD, 1, "measure c;", Probe.OTHER, "  ^longer_word_1;");
        bounds.faulty(Bounds.OPEN, Probe.NUMBER, "select count(*) where day.day in (1,  ^00002147483648);");
        bounds.faulty(Bounds.OPEN, 2, "select count(*);select count(*);", Probe.NAME, "select   ^nothing.x;");
        bounds.faulty(Bounds.OPEN, Probe.OTHER, " ".repeat(3000) + "^;");
    }

    private static void stateBehindOther() {
        bounds.sentence("STATE: (at its first word, asked when that was read, behind OTHER)");
        for (String word : new String[] {"dimension", "measure", "member"}) {
            bounds.faulty(Bounds.OPEN, Probe.STATE, "^" + word);
            bounds.faulty(Bounds.OPEN, Probe.STATE, "^" + word + " $;");
            bounds.faulty(Bounds.OPEN, Probe.STATE, " ^" + word + " shop;");
            bounds.faulty(Bounds.OPEN, 1, "select count(*);", Probe.STATE, "^" + word + ";select sum(n);");
            bounds.faulty(Bounds.OPEN, Probe.OTHER, "^" + word + "s c;");
        }
        bounds.faulty(Bounds.OPEN, Probe.STATE, "^measure c;");
        bounds.faulty(Bounds.OPEN, Probe.STATE, "^dimension c(x);");
        bounds.faulty(Bounds.OPEN, Probe.STATE, "^member day(99,1);");
        for (Bounds.Maker maker : new Bounds.Maker[] {Bounds.FRESH, TOLD, Bounds.told(Probe.CATALOG)}) {
            bounds.faulty(maker, Probe.STATE, "^select");
            bounds.faulty(maker, Probe.STATE, "^select $");
            bounds.faulty(maker, Probe.STATE, "^select count(*);");
            bounds.faulty(maker, 1, "measure other;", Probe.STATE, "^select count(*);measure more;");
            bounds.faulty(maker, Probe.OTHER, "^selects count(*);");
            bounds.faulty(maker, Probe.OTHER, "^count(*);");
        }
    }

    private static void nameBeforeMany() {
        bounds.sentence("then OTHER, then NAME, TAKEN, MANY: NAME before MANY");
        Bounds.Maker full = Bounds.told(catalogOfEight());
        for (String word : new String[] {"in", "select", TOO_LONG}) {
            bounds.faulty(full, Probe.NAME, "dimension ^" + word + "(x);");
            bounds.faulty(full, Probe.NAME, "measure ^" + word + ";");
            bounds.faulty(TOLD, Probe.NAME, "dimension c(p,q,r,s,^" + word + ");");
        }
        for (String word : new String[] {"nothing", "price", "where", TOO_LONG}) {
            bounds.faulty(Bounds.OPEN, Probe.NAME, "select " + "count(*),".repeat(24) + "^" + word + ";");
            bounds.faulty(Bounds.OPEN, Probe.NAME, Q + "where " + "day.day=1 or ".repeat(60) + "^" + word + ";");
            bounds.faulty(wide(), Probe.NAME, Q + "group by a.w,a.x,a.y,a.z,b.w,b.x,b.y,b.z,^" + word + ";");
        }
        bounds.sentence("SIGN and NUMBER are asked first, then OTHER: before MANY");
        String[] wrong = {"$", "2147483648", "5"};
        int[] due = {Probe.SIGN, Probe.NUMBER, Probe.OTHER};
        for (int i = 0; i < wrong.length; i++) {
            bounds.faulty(full, due[i], "dimension ^" + wrong[i]);
            bounds.faulty(full, due[i], "measure ^" + wrong[i]);
            bounds.faulty(TOLD, due[i], "dimension c(p,q,r,s,^" + wrong[i]);
            bounds.faulty(Bounds.OPEN, due[i], "select " + "count(*),".repeat(24) + "^" + wrong[i]);
            bounds.faulty(Bounds.OPEN, due[i], Q + "where " + "day.day=1 or ".repeat(60) + "^" + wrong[i]);
        }
        String list = Q + "where day.day in (" + "1,".repeat(40);
        bounds.faulty(Bounds.OPEN, Probe.SIGN, list + "^$");
        bounds.faulty(Bounds.OPEN, Probe.NUMBER, list + "^2147483648");
        bounds.faulty(Bounds.OPEN, Probe.OTHER, list + "^x");
    }

    private static void takenBeforeMany() {
        bounds.sentence("then NAME, TAKEN, MANY: TAKEN before MANY");
        Bounds.Maker full = Bounds.told(catalogOfEight());
        for (String name : new String[] {"d0", "d7", "m0", "m7"}) {
            bounds.faulty(full, Probe.TAKEN, "dimension ^" + name + "(x);");
            bounds.faulty(full, Probe.TAKEN, "measure ^" + name + ";");
        }
        for (String name : new String[] {"p", "q", "r", "s"}) {
            bounds.faulty(TOLD, Probe.TAKEN, "dimension c(p,q,r,s,^" + name + ");");
        }
        bounds.faulty(full, Probe.MANY, "dimension ^c(x);");
        bounds.faulty(full, Probe.MANY, "measure ^c;");
        bounds.faulty(TOLD, Probe.MANY, "dimension c(p,q,r,s,^t);");
    }

    private static void manyBeforeTwice() {
        bounds.sentence("TAKEN, MANY, TWICE: MANY before TWICE");
        String eight = "a.w,a.x,a.y,a.z,b.w,b.x,b.y,b.z";
        bounds.faulty(wide(), Probe.MANY, Q + "group by " + eight + ",^a.w;");
        bounds.faulty(wide(), Probe.MANY, Q + "group by " + eight + ",^b.z;");
        bounds.faulty(wide(), Probe.MANY, Q + "group by rollup(" + eight + ",^a.w);");
        bounds.faulty(wide(), Probe.TWICE, Q + "group by a.w,a.x,a.y,a.z,b.w,b.x,b.y,^a.w;");
    }

    private static void manyBeforeKey() {
        bounds.sentence("KEY: behind MANY");
        Bounds.Maker some = Bounds.told("dimension a(x,y);member a(1,1);");
        bounds.faulty(some, Probe.MANY, "member a^(1);");
        bounds.faulty(some, Probe.MANY, "member a^(1,1,1);");
        bounds.faulty(some, Probe.MANY, "member a^(1,2,2);");
        bounds.faulty(some, Probe.MANY, "member a(2,2),^(2);");
        bounds.faulty(some, Probe.KEY, "member a^(1,1);");
        StringBuilder thousand = new StringBuilder("dimension a(x);member a(0)");
        for (int value = 1; value < 1000; value++) {
            thousand.append(",(").append(value).append(')');
        }
        bounds.faulty(Bounds.told(thousand + ";"), Probe.MANY, "member a^(0);");
        bounds.faulty(Bounds.told(thousand + ";"), Probe.MANY, "member a^(1,2);");
        bounds.faulty(Bounds.told(thousand + ";"), Probe.MANY, "member a^($");
    }

    private static void keyAskedAtTheEndBracket() {
        bounds.sentence("KEY: at the bracket that begins it, asked when its end bracket is read");
        Bounds.Maker some = Bounds.told("dimension a(x,y);member a(1,1);");
        bounds.faulty(some, Probe.KEY, "member a^(1,1)");
        bounds.faulty(some, Probe.KEY, "member a^(1,1)$");
        bounds.faulty(some, Probe.KEY, "member a(2,1), ^( 1 , 1 ) ,");
        bounds.faulty(some, Probe.KEY, "member a(2,1),^(2,1),(x);");
        bounds.faulty(some, Probe.END, "member a(1,1^");
        bounds.faulty(some, Probe.SIGN, "member a(1,1^$");
        bounds.faulty(some, Probe.OTHER, "member a(1,1^;");
        bounds.faulty(some, Probe.OTHER, "member a(1,^x);");
    }

    private static void whatWasBeforeStays() {
        bounds.sentence("then nothing more is carried out (what was before it stays)");
        bounds.faulty(Bounds.FRESH, 3, "dimension a(x);measure m;member a(5),(3);", Probe.KEY,
                "member a(4),^(3);member a(6);measure n;dimension b(y);");
        bounds.faulty(Bounds.FRESH, 2, "dimension a(x,y);measure m;", Probe.OTHER,
                "dimension b(z^;member a(1,1);measure n;");
        bounds.faulty(Bounds.OPEN, 1, "select sum(n) where shop.store = 3 group by cube(day.day,shop.city);",
                Probe.NAME, "select count(*),count(*) where day.day = 1 group by shop.land,shop.^x;select min(n);");
        bounds.faulty(Bounds.OPEN, 2, "select min(n);select shop.city,max(n) group by shop.city;", Probe.GROUP,
                "select count(*), ^shop.land group by day.day;select count(*);");
    }

    private static String catalogOfEight() {
        StringBuilder text = new StringBuilder();
        for (int i = 0; i < 8; i++) {
            text.append("dimension d").append(i).append("(x);measure m").append(i).append(';');
        }
        return text.toString();
    }

    private static Bounds.Maker wide() {
        return Bounds.opened("dimension a(w,x,y,z);dimension b(w,x,y,z);measure price;member a(1,1,1,1);"
                + "member b(1,1,1,1);");
    }
}
