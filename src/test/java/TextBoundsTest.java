/** The bounds that the document names of the text, its bytes, words, numbers and signs; promises 1 to 5. */
public final class TextBoundsTest {
    private static final Bounds bounds = new Bounds();
    private static final int BLANKS = 0x20202020;
    private static final String FORTY = "a_34567890123456789012345678901234567890";
    private static final String[] RESERVED = {"dimension", "measure", "member", "select", "where",
        "group", "by", "rollup", "cube", "grouping", "sum", "count", "min", "max", "and", "or", "not",
        "between", "in"};
    private static final String WHERE = "select count(*) where day.day ";

    public static void main(String[] args) {
        newObject();
        fullText();
        feedAnswersTheLength();
        highestByteFirst();
        trimBounds();
        trimOfMoreThanThereAre();
        lastBytesGo();
        runOfNothing();
        textIsUsedUp();
        faultBounds();
        faultBeforeAny();
        faultOfTheLastText();
        blanks();
        wordsBegin();
        wordsGoOn();
        caseCounts();
        digits();
        ints();
        minusSigns();
        longestSigns();
        namesOfForty();
        wordsTooLong();
        reservedWords();
        wordsLikeReservedOnes();
        bounds.end();
    }

    private static void newObject() {
        bounds.sentence("A reader that is NEW, without text, dimensions, measures");
        for (int what = 0; what <= 6; what++) {
            int asked = what;
            bounds.answers("count(" + what + ")", Bounds.FRESH, 0, reader -> reader.count(asked));
        }
        bounds.answers("run()", Bounds.FRESH, 0, QuestionReader::run);
        bounds.answers("open()", Bounds.FRESH, false, reader -> reader.open() ? 1 : 0);
        bounds.argument("trim(1)", Bounds.FRESH, reader -> reader.trim(1));
        bounds.argument("dimension(0, 0)", Bounds.FRESH, reader -> reader.dimension(0, 0));
        bounds.argument("letter(40, 0)", Bounds.FRESH, reader -> reader.letter(40, 0));
        bounds.right(Bounds.FRESH, 1, "measure m;");
        bounds.faulty(Bounds.FRESH, Probe.STATE, "^select count(*);");
    }

    /** An object's 512 calls cannot fill the text: the class keeps to the limit beyond them, too. */
    private static void fullText() {
        bounds.sentence("Illegal state: there would be more than 65536");
        bounds.answers("feed behind 65516", filled(65516), 65536, TextBoundsTest::feedBlanks);
        bounds.state("feed behind 65517", filled(65517), TextBoundsTest::feedBlanks);
        bounds.state("feed behind 65535", filled(65535), TextBoundsTest::feedBlanks);
        bounds.state("feed behind 65536", filled(65536), TextBoundsTest::feedBlanks);
        bounds.answers("trim of 65536", filled(65536), 65516, reader -> reader.trim(20));
        bounds.answers("run of 65536", filled(65536), 1, QuestionReader::run);
        bounds.answers("fault of 65536", filled(65536), 0, reader -> reader.run() + reader.fault(0) - 1);
        bounds.answers("feed behind a full text that was run", filled(65536), 20,
                reader -> 0 * reader.run() + feedBlanks(reader));
    }

    /** So many bytes: blanks and a measure, whose ; is the last byte. */
    private static Bounds.Maker filled(int length) {
        return () -> {
            QuestionReader reader = new QuestionReader();
            for (int fed = 0; fed + 20 < length; fed += 20) {
                feedBlanks(reader);
            }
            reader.trim((20 - length % 20) % 20);
            reader.feed(BLANKS, BLANKS, 0x206d6561, 0x73757265, 0x20786d3b);
            return reader;
        };
    }

    private static int feedBlanks(QuestionReader reader) {
        return reader.feed(BLANKS, BLANKS, BLANKS, BLANKS, BLANKS);
    }

    private static void feedAnswersTheLength() {
        bounds.sentence("Twenty bytes come behind the text: how many it has");
        bounds.answers("the first twenty", Bounds.FRESH, 20, TextBoundsTest::feedBlanks);
        bounds.answers("twenty behind one", Bounds.fed(Bounds.FRESH, ";"), 21,
                TextBoundsTest::feedBlanks);
        bounds.answers("twenty behind nineteen", Bounds.fed(Bounds.FRESH, ";".repeat(19)), 39,
                TextBoundsTest::feedBlanks);
        bounds.answers("bytes of it", Bounds.fed(Bounds.FRESH, ";".repeat(21)), 41,
                reader -> 0 * feedBlanks(reader) + reader.count(2));
    }

    private static void highestByteFirst() {
        bounds.sentence("each of the five with its highest byte first");
        for (int at = 0; at < 20; at++) {
            int[] five = {BLANKS, BLANKS, BLANKS, BLANKS, BLANKS};
            int shift = 24 - 8 * (at % 4);
            five[at / 4] = BLANKS & ~(255 << shift) | 0xa0 << shift;
            bounds.answers("place of byte " + at, Bounds.FRESH, at, reader -> {
                reader.feed(five[0], five[1], five[2], five[3], five[4]);
                reader.run();
                return reader.fault(1);
            });
        }
    }

    private static void trimBounds() {
        bounds.sentence("Illegal argument: n is not 0 .. 20");
        Bounds.Maker forty = Bounds.fed(Bounds.FRESH, "measure a;measure b;measure c;measure d;");
        for (int n = 0; n <= 20; n++) {
            int trimmed = n;
            bounds.answers("trim(" + n + ") of 40", forty, 40 - n, reader -> reader.trim(trimmed));
        }
        bounds.argumentOutside("trim of 40", forty, 0, 20, QuestionReader::trim);
    }

    private static void trimOfMoreThanThereAre() {
        bounds.sentence("Illegal argument: or more than there are");
        bounds.answers("trim(0) of 0", Bounds.FRESH, 0, reader -> reader.trim(0));
        bounds.argumentOutside("trim of 0", Bounds.FRESH, 0, 0, QuestionReader::trim);
        for (int length = 1; length <= 20; length++) {
            Bounds.Maker maker = Bounds.fed(Bounds.FRESH, "measure a;measure b;".substring(20 - length));
            int all = length;
            bounds.answers("trim of all " + length, maker, 0, reader -> reader.trim(all));
            bounds.argument("trim of one more than " + length, maker, reader -> reader.trim(all + 1));
        }
        Bounds.Maker used = Bounds.with(Bounds.FRESH, "measure a;measure b;");
        bounds.argument("trim(1) of a text that was run", used, reader -> reader.trim(1));
    }

    private static void lastBytesGo() {
        bounds.sentence("The last n bytes of the text go");
        bounds.answers("a name that lost its end", Bounds.FRESH, -1, reader -> {
            Probe.feed(reader, "measure abcde");
            reader.trim(3);
            Probe.feed(reader, ";");
            reader.run();
            return reader.letter(40, 2);
        });
        bounds.answers("a name that got another end", Bounds.FRESH, 'z', reader -> {
            Probe.feed(reader, "measure abcde");
            reader.trim(3);
            Probe.feed(reader, "z;");
            reader.run();
            return reader.letter(40, 2);
        });
        bounds.answers("a text that lost its last ;", Bounds.FRESH, 1, reader -> {
            Probe.feed(reader, "measure a;measure b;");
            reader.trim(1);
            return reader.run();
        });
        // What went would go on with the text's last word, number, sign or blank.
        dueTrimmed("measure abc", "def;", Probe.END, 11);
        dueTrimmed("measure abc  ", "  ;", Probe.END, 13);
        dueTrimmed("dimension a(x);member a(12", "34);", Probe.END, 26);
        dueTrimmed("dimension a(x);member a(2147483647", "0);", Probe.END, 34);
        dueTrimmed("dimension a(x);member a(-", "12);", Probe.SIGN, 24);
        dueTrimmed("dimension a(x);member a<", "=1);", Probe.OTHER, 23);
        dueTrimmed("measure a;   ", "   ", 0, -1);
        bounds.answers("half a sign", Bounds.fed(Bounds.OPEN, WHERE + "<="), WHERE.length() + 1,
                reader -> 0 * (reader.trim(1) + reader.run()) + reader.fault(1));
    }

    private static void dueTrimmed(String text, String trimmed, int kind, int place) {
        Bounds.Maker maker = () -> {
            QuestionReader reader = new QuestionReader();
            Probe.feed(reader, text + trimmed);
            reader.trim(trimmed.length());
            reader.run();
            return reader;
        };
        bounds.answers("fault of trimmed " + text, maker, kind, reader -> reader.fault(0));
        bounds.answers("place of trimmed " + text, maker, place, reader -> reader.fault(1));
    }

    private static void runOfNothing() {
        bounds.sentence("Runs the text: how many statements were carried out");
        bounds.right(Bounds.FRESH, 0, "");
        bounds.right(Bounds.FRESH, 0, " ");
        bounds.right(Bounds.FRESH, 0, " \t\r\n".repeat(10));
        bounds.right(Bounds.OPEN, 0, "");
        bounds.right(Bounds.FRESH, 1, "measure a;");
        bounds.right(Bounds.FRESH, 8, "measure a;measure b;measure c;measure d;measure e;measure f;"
                + "measure g;measure h;");
        bounds.right(Bounds.OPEN, 20, "select count(*);".repeat(20));
        bounds.faulty(Bounds.FRESH, 2, "measure a;measure b;", Probe.TAKEN, "measure ^a;measure c;");
    }

    private static void textIsUsedUp() {
        bounds.sentence("run as a whole: then it is used up");
        String[] texts = {"measure a;", "measure a; ", "measure a;measure", "$ measure a;", "   "};
        for (String text : texts) {
            Bounds.Maker maker = Bounds.with(Bounds.FRESH, text);
            bounds.answers("bytes behind the run of " + text, maker, 0, reader -> reader.count(2));
            bounds.answers("a second run of " + text, maker, 0, QuestionReader::run);
            bounds.right(maker, 1, "measure b;");
        }
    }

    private static void faultBounds() {
        bounds.sentence("fault: Illegal argument: what is none of these");
        bounds.argumentOutside("fault", Bounds.FRESH, 0, 1, QuestionReader::fault);
        bounds.argumentOutside("fault behind one", Bounds.with(Bounds.FRESH, "measure a;measure 5;"),
                0, 1, QuestionReader::fault);
    }

    private static void faultBeforeAny() {
        bounds.sentence("0 and NONE before any");
        bounds.answers("kind", Bounds.FRESH, 0, reader -> reader.fault(0));
        bounds.answers("place", Bounds.FRESH, QuestionReader.NONE, reader -> reader.fault(1));
        Bounds.Maker fed = Bounds.fed(Bounds.FRESH, "$");
        bounds.answers("kind of a text that was not run", fed, 0, reader -> reader.fault(0));
        bounds.answers("place of a text that was not run", fed, -1, reader -> reader.fault(1));
    }

    private static void faultOfTheLastText() {
        bounds.sentence("Of the last text that was run: the kind of its fault, 0 for none; NONE for none");
        Bounds.Maker wrong = Bounds.with(Bounds.FRESH, "measure a;^");
        bounds.answers("kind", wrong, Probe.SIGN, reader -> reader.fault(0));
        bounds.answers("place", wrong, 10, reader -> reader.fault(1));
        Bounds.Maker fed = Bounds.fed(wrong, "measure b;");
        bounds.answers("kind behind feed", fed, Probe.SIGN, reader -> reader.fault(0));
        bounds.answers("place behind feed and trim", fed, 10,
                reader -> 0 * reader.trim(3) + reader.fault(1));
        bounds.answers("place behind open", wrong, 10,
                reader -> (reader.open() ? 100 : 0) + reader.fault(1));
        Bounds.Maker right = Bounds.with(wrong, "measure b;");
        bounds.answers("kind behind a right text", right, 0, reader -> reader.fault(0));
        bounds.answers("place behind a right text", right, -1, reader -> reader.fault(1));
        Bounds.Maker none = Bounds.with(wrong, "");
        bounds.answers("kind behind no text", none, 0, reader -> reader.fault(0));
        bounds.answers("place behind no text", none, -1, reader -> reader.fault(1));
        Bounds.Maker other = Bounds.with(wrong, "");
        bounds.answers("place of a fault at the text's first byte", Bounds.with(other, ";"), 0,
                reader -> reader.fault(1));
    }

    private static void blanks() {
        bounds.sentence("BLANKS are the bytes 9, 10, 13, 32");
        for (int letter = 0; letter < 256; letter++) {
            if (letter == 9 || letter == 10 || letter == 13 || letter == 32) {
                String blank = String.valueOf((char) letter);
                bounds.right(Bounds.FRESH, 1, blank + "measure" + blank + blank + "m" + blank + ";" + blank);
            } else if (letter < 33 || letter > 126) {
                bounds.faulty(Bounds.FRESH, Probe.SIGN, "measure^" + (char) letter + " m;");
            }
        }
    }

    private static void wordsBegin() {
        bounds.sentence("WORDS are a letter (a .. z, A .. Z)");
        for (int letter = 0; letter < 256; letter++) {
            String one = String.valueOf((char) letter);
            if (isLetter(letter)) {
                bounds.right(Bounds.FRESH, 1, "measure " + one + ";");
            } else if (letter >= '0' && letter <= '9' || "(),;.*=<>".indexOf(letter) >= 0) {
                bounds.faulty(Bounds.FRESH, Probe.OTHER, "measure ^" + one + "x;");
            } else if (letter > 32 && letter != '^') {
                bounds.faulty(Bounds.FRESH, Probe.SIGN, "measure ^" + one + "x;");
            }
        }
        bounds.answers("kind of the byte ^", Bounds.with(Bounds.FRESH, "measure ^x;"), Probe.SIGN,
                reader -> reader.fault(0));
    }

    private static void wordsGoOn() {
        bounds.sentence("and all letters, digits and _ that follow");
        for (int letter = 33; letter < 256; letter++) {
            String one = String.valueOf((char) letter);
            if (isLetter(letter) || letter >= '0' && letter <= '9' || letter == '_') {
                Bounds.Maker maker = Bounds.told("measure x" + one + ";");
                int due = letter;
                bounds.answers("the second letter of x" + one, maker, due, reader -> reader.letter(40, 1));
                bounds.answers("behind x" + one, maker, -1, reader -> reader.letter(40, 2));
            } else if ("(),.*=<>".indexOf(letter) >= 0) {
                bounds.faulty(Bounds.FRESH, Probe.OTHER, "measure x^" + one + ";");
            } else if (letter != ';' && letter != '^') {
                bounds.faulty(Bounds.FRESH, Probe.SIGN, "measure x^" + one + ";");
            }
        }
    }

    private static boolean isLetter(int letter) {
        return letter >= 'a' && letter <= 'z' || letter >= 'A' && letter <= 'Z';
    }

    private static void caseCounts() {
        bounds.sentence("case counts everywhere");
        bounds.right(Bounds.FRESH, 4, "measure a;measure A;dimension b(x,X);dimension B(X);");
        bounds.faulty(Bounds.FRESH, Probe.OTHER, "^Measure a;");
        bounds.faulty(Bounds.FRESH, Probe.OTHER, "^measurE a;");
        bounds.faulty(Bounds.told("dimension a(x);"), Probe.NAME, "member ^A(1);");
        bounds.faulty(Bounds.OPEN, Probe.NAME, "select ^Shop.city;");
        bounds.faulty(Bounds.OPEN, Probe.NAME, "select shop.^City;");
        bounds.faulty(Bounds.OPEN, Probe.NAME, "select ^Count(*);");
        bounds.faulty(Bounds.OPEN, Probe.NAME, "select sum(^N);");
        bounds.faulty(Bounds.OPEN, Probe.OTHER, "select count(*) ^Where day.day = 1;");
        bounds.faulty(Bounds.OPEN, Probe.OTHER, WHERE + "= 1 ^And day.day = 1;");
        bounds.faulty(Bounds.OPEN, Probe.NAME, "select count(*) group by ^Cube(day.day);");
    }

    private static void digits() {
        bounds.sentence("NUMBERS are digits, as many as follow one another");
        for (int letter = 33; letter < 256; letter++) {
            String text = "member a(1^" + (char) letter + " ";
            Bounds.Maker told = Bounds.told("dimension a(x);");
            if (letter >= '0' && letter <= '9') {
                bounds.answers("1 and " + (char) letter, Bounds.with(told, "member a(1" + (char) letter + ");"),
                        10 + letter - '0', reader -> reader.value(0, 0, 0));
            } else if (isLetter(letter) || "(;.*=<>".indexOf(letter) >= 0) {
                bounds.faulty(told, Probe.OTHER, text);
            } else if (letter != ')' && letter != ',' && letter != '^') {
                bounds.faulty(told, Probe.SIGN, text);
            }
        }
    }

    private static void ints() {
        bounds.sentence("a number that is no int");
        String[] right = {"2147483647", "-2147483648", "0", "-0", "00", "-00000000000000000000000001",
            "0000000000000000000002147483647", "-0000000000000000002147483648"};
        for (String number : right) {
            bounds.right(Bounds.OPEN, 1, WHERE + "= " + number + ";");
            Bounds.Maker maker = Bounds.told("dimension a(x);member a(" + number + ");");
            bounds.answers("value " + number, maker, Long.parseLong(number),
                    reader -> reader.value(0, 0, 0));
        }
        String[] wrong = {"2147483648", "-2147483649", "2147483650", "-2147483650", "-21474836480", "4294967295",
            "4294967296", "-4294967296", "9999999999", "9223372036854775807", "9223372036854775808",
            "-9223372036854775808", "-9223372036854775809", "18446744073709551616",
            "18446744073709551617", "00000000000000000000002147483648", "1" + "0".repeat(300)};
        for (String number : wrong) {
            bounds.faulty(Bounds.OPEN, Probe.NUMBER, WHERE + "= ^" + number + ";");
            bounds.faulty(Bounds.OPEN, Probe.NUMBER, WHERE + "in (1,^" + number + ");");
            bounds.faulty(Bounds.told("dimension a(x);"), Probe.NUMBER, "member a(^" + number + ");");
        }
    }

    private static void minusSigns() {
        bounds.sentence("with a - before them if it stands directly there; a - without a digit is none");
        bounds.right(Bounds.OPEN, 1, WHERE + "=-1;");
        bounds.right(Bounds.OPEN, 1, WHERE + "between-2and-1;");
        bounds.faulty(Bounds.OPEN, Probe.SIGN, WHERE + "= ^- 1;");
        bounds.faulty(Bounds.OPEN, Probe.SIGN, WHERE + "= ^--1;");
        bounds.faulty(Bounds.OPEN, Probe.SIGN, WHERE + "= ^-x;");
        bounds.faulty(Bounds.OPEN, Probe.SIGN, WHERE + "= ^-;");
        bounds.faulty(Bounds.OPEN, Probe.SIGN, WHERE + "= ^-");
        bounds.faulty(Bounds.OPEN, Probe.SIGN, WHERE + "= 1^-");
        bounds.faulty(Bounds.OPEN, Probe.OTHER, WHERE + "= 1^-1;");
        bounds.faulty(Bounds.OPEN, Probe.OTHER, WHERE + "^-1;");
        bounds.faulty(Bounds.OPEN, Probe.OTHER, "select day^-1;");
        bounds.faulty(Bounds.OPEN, Probe.SIGN, "select day^-x;");
        Bounds.Maker trimmed = () -> {
            QuestionReader reader = Probe.openReader();
            Probe.feed(reader, WHERE + "= -1");
            reader.trim(1);
            return reader;
        };
        bounds.answers("a - whose digit was trimmed", trimmed, Probe.SIGN,
                reader -> 0 * reader.run() + reader.fault(0));
    }

    private static void longestSigns() {
        bounds.sentence("other SIGNS are .. (the longest one counts)");
        String[] relations = {"=", "<", ">", "<=", ">=", "<>"};
        for (String sign : relations) {
            bounds.right(Bounds.OPEN, 1, WHERE + sign + "1;");
            bounds.faulty(Bounds.OPEN, Probe.END, WHERE + sign + "^");
            bounds.faulty(Bounds.OPEN, Probe.OTHER, WHERE + sign + "^);");
            bounds.faulty(Bounds.OPEN, Probe.OTHER, WHERE + sign + " ^= 1;");
        }
        bounds.faulty(Bounds.OPEN, Probe.OTHER, WHERE + "=^=1;");
        bounds.faulty(Bounds.OPEN, Probe.OTHER, WHERE + "=^<1;");
        bounds.faulty(Bounds.OPEN, Probe.OTHER, WHERE + "=^>1;");
        bounds.faulty(Bounds.OPEN, Probe.OTHER, WHERE + "<^<1;");
        bounds.faulty(Bounds.OPEN, Probe.OTHER, WHERE + "<^<=1;");
        bounds.faulty(Bounds.OPEN, Probe.OTHER, WHERE + ">^<1;");
        bounds.faulty(Bounds.OPEN, Probe.OTHER, WHERE + ">^>1;");
        bounds.faulty(Bounds.OPEN, Probe.OTHER, WHERE + "<=^=1;");
        bounds.faulty(Bounds.OPEN, Probe.OTHER, WHERE + "<>^=1;");
        bounds.faulty(Bounds.OPEN, Probe.OTHER, WHERE + "<=^>1;");
        bounds.faulty(Bounds.OPEN, Probe.OTHER, WHERE + ">=^>1;");
        bounds.faulty(Bounds.OPEN, Probe.SIGN, WHERE + "^!=1;");
        bounds.faulty(Bounds.OPEN, Probe.SIGN, WHERE + "=^'1';");
    }

    private static void namesOfForty() {
        bounds.sentence("NAMES are words of at most 40 bytes (digits and _ with them)");
        String other = FORTY.substring(0, 39) + "1";
        String text = "dimension " + FORTY + "(" + FORTY + "," + other + ");measure " + other + ";";
        int[] whats = {0, 8, 9, 40};
        for (int what : whats) {
            String due = what == 0 || what == 8 ? FORTY : other;
            for (int i = 0; i < 40; i++) {
                int asked = i;
                bounds.answers("letter(" + what + ", " + i + ")", Bounds.told(text), due.charAt(i),
                        reader -> reader.letter(what, asked));
            }
            bounds.answers("letter(" + what + ", 40)", Bounds.told(text), -1,
                    reader -> reader.letter(what, 40));
        }
        Bounds.Maker open = Bounds.opened(text + "member " + FORTY + "(1,2);");
        bounds.right(open, 1, "select " + FORTY + "." + FORTY + ",sum(" + other + ") where " + FORTY + "."
                + other + "=2 group by " + FORTY + "." + FORTY + ";");
        bounds.faulty(open, Probe.NAME, "select ^" + other + "." + FORTY + ";");
        bounds.faulty(open, Probe.NAME, "select ^" + FORTY.substring(0, 39) + "." + FORTY + ";");
    }

    private static void wordsTooLong() {
        bounds.sentence("NAME: a word that is longer than 40 bytes, where a name must stand");
        String[] words = {FORTY + "1", FORTY + "_", FORTY + "x", "y".repeat(41), "y".repeat(1000)};
        Bounds.Maker told = Bounds.told("dimension " + FORTY + "(" + FORTY + ");");
        Bounds.Maker open = Bounds.opened("dimension " + FORTY + "(" + FORTY + ");measure m;member "
                + FORTY + "(1);");
        for (String word : words) {
            bounds.faulty(Bounds.FRESH, Probe.NAME, "dimension ^" + word + "(x);");
            bounds.faulty(Bounds.FRESH, Probe.NAME, "dimension d(^" + word + ");");
            bounds.faulty(Bounds.FRESH, Probe.NAME, "dimension d(x,^" + word + ");");
            bounds.faulty(Bounds.FRESH, Probe.NAME, "measure ^" + word + ";");
            bounds.faulty(told, Probe.NAME, "member ^" + word + "(1);");
            bounds.faulty(open, Probe.NAME, "select ^" + word + "." + FORTY + ";");
            bounds.faulty(open, Probe.NAME, "select " + FORTY + ".^" + word + ";");
            bounds.faulty(open, Probe.NAME, "select sum(^" + word + ");");
            bounds.faulty(open, Probe.NAME, "select grouping(^" + word + "." + FORTY + ");");
            bounds.faulty(open, Probe.NAME, "select count(*) where ^" + word + "." + FORTY + " = 1;");
            bounds.faulty(open, Probe.NAME, "select count(*) group by ^" + word + "." + FORTY + ";");
            bounds.faulty(open, Probe.OTHER, "select count(*) ^" + word + ";");
            bounds.faulty(Bounds.FRESH, Probe.OTHER, "^" + word + " m;");
        }
    }

    private static void reservedWords() {
        bounds.sentence("NAMES are words that are not RESERVED");
        for (String word : RESERVED) {
            bounds.faulty(Bounds.FRESH, Probe.NAME, "dimension ^" + word + "(x);");
            bounds.faulty(Bounds.FRESH, Probe.NAME, "dimension d(^" + word + ");");
            bounds.faulty(Bounds.FRESH, Probe.NAME, "dimension d(x,^" + word + ");");
            bounds.faulty(Bounds.FRESH, Probe.NAME, "measure ^" + word + ";");
            bounds.faulty(Bounds.told("dimension d(x);"), Probe.NAME, "member ^" + word + "(1);");
            bounds.faulty(Bounds.OPEN, Probe.NAME, "select shop.^" + word + ";");
            bounds.faulty(Bounds.OPEN, Probe.NAME, "select sum(^" + word + ");");
        }
    }

    private static void wordsLikeReservedOnes() {
        bounds.sentence("RESERVED (just as written here)");
        for (String word : RESERVED) {
            String[] names = {word.toUpperCase(), word.substring(0, 1).toUpperCase() + word.substring(1),
                word.substring(0, word.length() - 1) + "X", word + "s", word + "_", word + "1", word + word,
                "a" + word, "b" + word, "ab" + word, "bb" + word};
            for (String name : names) {
                bounds.right(Bounds.FRESH, 2, "dimension " + name + "(" + name + ");measure m;");
                bounds.right(Bounds.FRESH, 1, "measure " + name + ";");
            }
        }
        bounds.right(Bounds.FRESH, 3, "measure dimensio;measure i;measure betwee;");
    }
}
