/**
 * Reads what is told of dimensions with their levels and members, and questions about them; what is
 * right is kept in order, of what is wrong the first fault and its place are told, and what a
 * question's condition says of any row of members can be asked.
 */
public final class QuestionReader {
    public static final int NONE = -1;

    private static final int FED_AT_ONCE = 20;

    private final Text text;
    private final Lexer lexer;
    private final Catalog catalog;
    private final CatalogGrammar catalogGrammar;
    private final QuestionGrammar questionGrammar;

    public QuestionReader() {
        text = new Text();
        lexer = new Lexer(text);
        catalog = new Catalog();
        catalogGrammar = new CatalogGrammar(lexer, catalog);
        questionGrammar = new QuestionGrammar(lexer, catalog);
    }

    public int feed(int a, int b, int c, int d, int e) throws IllegalStateException {
        if (text.length > Text.ROOM - FED_AT_ONCE) {
            throw new IllegalStateException("the text would be too long");
        }
        text.addFour(a);
        text.addFour(b);
        text.addFour(c);
        text.addFour(d);
        text.addFour(e);
        return text.length;
    }

    public int trim(int n) throws IllegalArgumentException {
        demand(n >= 0 && n <= FED_AT_ONCE && n <= text.length);
        text.length -= n;
        return text.length;
    }

    public int run() {
        lexer.restart();
        questionGrammar.latest.clear();
        int carriedOut = 0;
        for (int statements = 0; statements <= text.length; statements++) {
            lexer.advance();
            boolean isCarriedOut = lexer.kind == Kind.SELECT
                    ? questionGrammar.readQuestion()
                    : lexer.kind != Kind.END && catalogGrammar.readStatement();
            if (!isCarriedOut) {
                break;
            }
            carriedOut++;
        }
        text.length = 0;
        return carriedOut;
    }

    public int fault(int what) throws IllegalArgumentException {
        demand(what == 0 || what == 1);
        return what == 0 ? lexer.faultKind : lexer.faultPlace;
    }

    public boolean open() {
        return catalog.becomeOpen();
    }

    public int count(int what) throws IllegalArgumentException {
        Question question = questionGrammar.latest;
        switch (what) {
            case 0:
                return catalog.dimensionCount;
            case 1:
                return catalog.measureCount;
            case 2:
                return text.length;
            case 3:
                return question.itemCount;
            case 4:
                return question.columnCount;
            case 5:
                return question.setCount;
            case 6:
                return question.condition.comparisonCount;
            default:
                throw new IllegalArgumentException("nothing of this kind is counted");
        }
    }

    public int dimension(int d, int what) throws IllegalArgumentException {
        demand(catalog.hasDimension(d) && (what == 0 || what == 1));
        Dimension dimension = catalog.dimensions[d];
        return what == 0 ? dimension.levelCount : dimension.memberCount;
    }

    public int value(int d, int level, int place) throws IllegalArgumentException {
        demand(catalog.hasLevel(d, level) && catalog.hasMember(d, place));
        return catalog.dimensions[d].valueAt(level, place);
    }

    public int rank(int d, int level, int place)
            throws IllegalArgumentException, IllegalStateException {
        demand(catalog.hasLevel(d, level) && (place == NONE || catalog.hasMember(d, place)));
        demandOpen();
        Dimension dimension = catalog.dimensions[d];
        if (place == NONE) {
            return dimension.distinctAt(level);
        }
        return dimension.lowerThan(level, dimension.valueAt(level, place));
    }

    public int find(int d, int value) throws IllegalArgumentException, IllegalStateException {
        demand(catalog.hasDimension(d));
        demandOpen();
        return catalog.dimensions[d].placeOf(value);
    }

    public int letter(int what, int i) throws IllegalArgumentException {
        demand(catalog.hasName(what) && i >= 0);
        return catalog.names.letterAt(what, i);
    }

    public int item(int i, int what) throws IllegalArgumentException {
        Question question = questionGrammar.latest;
        demand(i >= 0 && i < question.itemCount && (what == 0 || what == 1));
        return what == 0 ? question.itemTypes[i] : question.itemTargets[i];
    }

    public int group(int k) throws IllegalArgumentException {
        Question question = questionGrammar.latest;
        demand(k >= 0 && k < question.columnCount);
        return question.columns[k];
    }

    public int set(int i) throws IllegalArgumentException {
        Question question = questionGrammar.latest;
        demand(i >= 0 && i < question.setCount);
        return question.sets[i];
    }

    public int pick(int d, int place) throws IllegalArgumentException, IllegalStateException {
        demand(catalog.hasMember(d, place));
        demandOpen();
        Dimension dimension = catalog.dimensions[d];
        int before = dimension.picked;
        dimension.picked = place;
        return before;
    }

    public boolean holds() throws IllegalStateException {
        Question question = questionGrammar.latest;
        if (!question.isAsked()) {
            throw new IllegalStateException("there is no question");
        }
        return question.condition.isTrueFor(catalog);
    }

    private void demandOpen() {
        if (!catalog.isOpen) {
            throw new IllegalStateException("the reader is new");
        }
    }

    private static void demand(boolean right) {
        if (!right) {
            throw new IllegalArgumentException("a number is out of its bounds");
        }
    }

    /** What a word, number or sign is. */
    private enum Kind {
        END(""), WRONG(""), NUMBER(""), NAME(""), TOO_LONG(""),
        OPENING("("), CLOSING(")"), COMMA(","), SEMICOLON(";"), DOT("."), STAR("*"),
        EQUAL("="), UNEQUAL("<>"), LESS("<"), AT_MOST("<="), MORE(">"), AT_LEAST(">="),
        DIMENSION("dimension"), MEASURE("measure"), MEMBER("member"), SELECT("select"),
        WHERE("where"), GROUP("group"), BY("by"), ROLLUP("rollup"), CUBE("cube"),
        GROUPING("grouping"), SUM("sum"), COUNT("count"), MIN("min"), MAX("max"),
        AND("and"), OR("or"), NOT("not"), BETWEEN("between"), IN("in");

        /** The longest spelling: nine times seven bits are just what a key can hold. */
        static final int LONGEST = 9;

        private static final Kind[] ALL = values();

        /** The spelling as one number, so that a look-up compares numbers and not letters. */
        private final long key;

        Kind(String spelling) {
            long packed = 0;
            for (int i = 0; i < spelling.length(); i++) {
                packed = packed << 7 | spelling.charAt(i);
            }
            key = packed;
        }

        static Kind spelled(long wanted, Kind otherwise) {
            // Kinds without a spelling have the key 0, and bytes above 127 come as negative ones.
            if (wanted > 0) {
                for (int i = 0; i < ALL.length; i++) {
                    if (ALL[i].key == wanted) {
                        return ALL[i];
                    }
                }
            }
            return otherwise;
        }
    }

    private static final class Text {
        static final int ROOM = 65536;

        final byte[] bytes = new byte[ROOM];
        int length;

        void addFour(int packed) {
            for (int shift = 24; shift >= 0 && length < ROOM; shift -= 8) {
                bytes[length] = (byte) (packed >>> shift);
                length++;
            }
        }
    }

    /** Goes through the text from word to word, and keeps the fault that was told. */
    private static final class Lexer {
        static final int SIGN = 1;
        static final int NUMBER = 2;
        static final int END = 3;
        static final int OTHER = 4;
        static final int NAME = 5;
        static final int TAKEN = 6;
        static final int MANY = 7;
        static final int STATE = 8;
        static final int KEY = 9;
        static final int TWICE = 10;
        static final int GROUP = 11;

        private static final long LARGEST_SIZE = 1L << 31;

        final Text text;
        Kind kind = Kind.END;
        int start;
        int end;
        int number;
        int faultKind;
        int faultPlace = NONE;
        private boolean isWord;
        /** The fault if something else must stand here, which is always so where this is WRONG. */
        private int unfit;

        Lexer(Text text) {
            this.text = text;
        }

        void restart() {
            end = 0;
            faultKind = 0;
            faultPlace = NONE;
        }

        void advance() {
            skipBlanks();
            start = end;
            isWord = false;
            unfit = OTHER;
            if (start >= text.length) {
                kind = Kind.END;
                unfit = END;
            } else if (isLetter(text.bytes[start])) {
                long key = scanWord();
                isWord = true;
                kind = end - start > Names.LONGEST ? Kind.TOO_LONG : Kind.spelled(key, Kind.NAME);
            } else if (isDigit(start) || text.bytes[start] == '-' && isDigit(start + 1)) {
                long wide = scanNumber();
                number = (int) wide;
                kind = number == wide ? Kind.NUMBER : Kind.WRONG;
                unfit = number == wide ? OTHER : NUMBER;
            } else {
                kind = Kind.spelled(scanSign(), Kind.WRONG);
                unfit = kind == Kind.WRONG ? SIGN : OTHER;
            }
        }

        boolean next(Kind due) {
            advance();
            return at(due);
        }

        boolean at(Kind due) {
            return kind == due || tell(unfit, start);
        }

        boolean atName() {
            return kind == Kind.NAME || tell(isWord ? NAME : unfit, start);
        }

        boolean tellUnfit() {
            return tell(unfit, start);
        }

        boolean tellHere(int what) {
            return tell(what, start);
        }

        /** False, always: a reader that tells of a fault answers so that the text is wrong. */
        boolean tell(int what, int place) {
            faultKind = what;
            faultPlace = place;
            return false;
        }

        private void skipBlanks() {
            for (int i = end; i < text.length; i++) {
                int letter = text.bytes[i];
                if (letter != 32 && letter != 9 && letter != 10 && letter != 13) {
                    break;
                }
                end++;
            }
        }

        /** The word's key, 0 if it is too long for one. */
        private long scanWord() {
            long key = 0;
            for (int i = start; i < text.length; i++) {
                int letter = text.bytes[i];
                if (!(letter >= 'a' && letter <= 'z' || letter >= 'A' && letter <= 'Z'
                        || letter >= '0' && letter <= '9' || letter == '_')) {
                    break;
                }
                key = key << 7 | letter;
                end++;
            }
            return end - start > Kind.LONGEST ? 0 : key;
        }

        private long scanNumber() {
            boolean negative = text.bytes[start] == '-';
            long size = 0;
            if (negative) {
                end++;
            }
            for (int i = end; i < text.length; i++) {
                int digit = text.bytes[i] - '0';
                if (digit < 0 || digit > 9) {
                    break;
                }
                // Beyond this it is no int, however it goes on.
                if (size <= LARGEST_SIZE) {
                    size = size * 10 + digit;
                }
                end++;
            }
            return negative ? -size : size;
        }

        private long scanSign() {
            int first = text.bytes[start];
            int second = start + 1 < text.length ? text.bytes[start + 1] : 0;
            boolean isPair = first == '<' && (second == '=' || second == '>')
                    || first == '>' && second == '=';
            end = isPair ? start + 2 : start + 1;
            return isPair ? first << 7 | second : first;
        }

        private boolean isDigit(int i) {
            return i < text.length && text.bytes[i] >= '0' && text.bytes[i] <= '9';
        }

        private static boolean isLetter(int letter) {
            return letter >= 'a' && letter <= 'z' || letter >= 'A' && letter <= 'Z';
        }
    }

    /** All names, each in the slot by which letter() asks for it. */
    private static final class Names {
        static final int LONGEST = 40;
        static final int LEVELS = 8;
        static final int MEASURES = 40;
        static final int SLOTS = 48;

        private final byte[] letters = new byte[SLOTS * LONGEST];
        private final int[] lengths = new int[SLOTS];

        void keep(int slot, Lexer word) {
            int length = word.end - word.start;
            if (slot < SLOTS && length <= LONGEST) {
                System.arraycopy(word.text.bytes, word.start, letters, slot * LONGEST, length);
                lengths[slot] = length;
            }
        }

        int letterAt(int slot, int i) {
            return i < lengths[slot] ? letters[slot * LONGEST + i] : NONE;
        }

        /** Which of the names from a slot on stands here; if it is none, that is told. */
        int read(int first, int count, Lexer word) {
            if (!word.atName()) {
                return NONE;
            }
            int found = search(first, count, word);
            if (found == NONE) {
                word.tellHere(Lexer.NAME);
            }
            return found;
        }

        int search(int first, int count, Lexer word) {
            for (int i = 0; i < count; i++) {
                if (isSame(first + i, word)) {
                    return i;
                }
            }
            return NONE;
        }

        private boolean isSame(int slot, Lexer word) {
            int length = word.end - word.start;
            if (lengths[slot] != length) {
                return false;
            }
            for (int i = 0; i < length; i++) {
                if (letters[slot * LONGEST + i] != word.text.bytes[word.start + i]) {
                    return false;
                }
            }
            return true;
        }
    }

    /** A dimension's members: rows in the order in which they came, found by places. */
    private static final class Dimension {
        static final int MAX_LEVELS = 4;
        static final int MAX_MEMBERS = 1000;

        int levelCount;
        int memberCount;
        int picked;
        private final int[][] values = new int[MAX_LEVELS][MAX_MEMBERS];
        private final int[] rows = new int[MAX_MEMBERS];
        private final int[][] sorted = new int[MAX_LEVELS][MAX_MEMBERS];
        private final int[] sortedCounts = new int[MAX_LEVELS];

        Dimension() {
            for (int place = 0; place < MAX_MEMBERS; place++) {
                rows[place] = place;
            }
        }

        /** Values for which there is no room are left out: they are counted where they are read. */
        void prepare(int level, int row, int value) {
            if (level < MAX_LEVELS && row < MAX_MEMBERS) {
                values[level][row] = value;
            }
        }

        /** Whether the values of a row go with those of all rows before it. */
        boolean fits(int row) {
            for (int level = 0; level < levelCount; level++) {
                int twin = firstWithSame(level, row);
                // Rows agree above a level where they meet: so one twin speaks for all others.
                if (twin < row) {
                    return level > 0 && agreeAbove(level, twin, row);
                }
            }
            return true;
        }

        void arrange() {
            for (int level = 0; level < levelCount; level++) {
                for (int row = 0; row < memberCount; row++) {
                    insert(level, values[level][row]);
                }
            }
            for (int row = 0; row < memberCount; row++) {
                rows[lowerThan(0, values[0][row])] = row;
            }
            picked = 0;
        }

        int valueAt(int level, int place) {
            return values[level][rows[place]];
        }

        int distinctAt(int level) {
            return sortedCounts[level];
        }

        int lowerThan(int level, int value) {
            int low = 0;
            int high = sortedCounts[level];
            for (int halvings = 0; halvings < 32 && low < high; halvings++) {
                int middle = (low + high) >>> 1;
                if (sorted[level][middle] < value) {
                    low = middle + 1;
                } else {
                    high = middle;
                }
            }
            return low;
        }

        int placeOf(int value) {
            int place = lowerThan(0, value);
            return place < sortedCounts[0] && sorted[0][place] == value ? place : NONE;
        }

        private int firstWithSame(int level, int row) {
            for (int other = 0; other < row; other++) {
                if (values[level][other] == values[level][row]) {
                    return other;
                }
            }
            return row;
        }

        private boolean agreeAbove(int level, int one, int other) {
            for (int above = level + 1; above < levelCount; above++) {
                if (values[above][one] != values[above][other]) {
                    return false;
                }
            }
            return true;
        }

        private void insert(int level, int value) {
            int[] row = sorted[level];
            int count = sortedCounts[level];
            int at = lowerThan(level, value);
            boolean isThere = at < count && row[at] == value;
            if (!isThere && count < MAX_MEMBERS) {
                System.arraycopy(row, at, row, at + 1, count - at);
                row[at] = value;
                sortedCounts[level] = count + 1;
            }
        }
    }

    private static final class Catalog {
        static final int MAX_DIMENSIONS = 8;
        static final int MAX_MEASURES = 8;

        final Names names = new Names();
        final Dimension[] dimensions = new Dimension[MAX_DIMENSIONS];
        int dimensionCount;
        int measureCount;
        boolean isOpen;

        Catalog() {
            for (int d = 0; d < MAX_DIMENSIONS; d++) {
                dimensions[d] = new Dimension();
            }
        }

        boolean hasDimension(int d) {
            return d >= 0 && d < dimensionCount;
        }

        boolean hasLevel(int d, int level) {
            return hasDimension(d) && level >= 0 && level < dimensions[d].levelCount;
        }

        boolean hasMember(int d, int place) {
            return hasDimension(d) && place >= 0 && place < dimensions[d].memberCount;
        }

        boolean hasName(int slot) {
            if (slot < Names.LEVELS) {
                return hasDimension(slot);
            }
            if (slot < Names.MEASURES) {
                int column = slot - Names.LEVELS;
                return hasLevel(dimensionOf(column), levelOf(column));
            }
            return slot - Names.MEASURES < measureCount;
        }

        boolean isTaken(Lexer word) {
            return names.search(0, dimensionCount, word) != NONE
                    || names.search(Names.MEASURES, measureCount, word) != NONE;
        }

        boolean becomeOpen() {
            if (isOpen || dimensionCount == 0 || measureCount == 0) {
                return false;
            }
            for (int d = 0; d < dimensionCount; d++) {
                if (dimensions[d].memberCount == 0) {
                    return false;
                }
            }
            for (int d = 0; d < dimensionCount; d++) {
                dimensions[d].arrange();
            }
            isOpen = true;
            return true;
        }

        int pickedValue(int column) {
            Dimension dimension = dimensions[dimensionOf(column)];
            return dimension.valueAt(levelOf(column), dimension.picked);
        }

        static int columnNumber(int d, int level) {
            return d * Dimension.MAX_LEVELS + level;
        }

        private static int dimensionOf(int column) {
            return column / Dimension.MAX_LEVELS;
        }

        private static int levelOf(int column) {
            return column % Dimension.MAX_LEVELS;
        }
    }

    /** Reads the statements that tell of dimensions, measures and members. */
    private static final class CatalogGrammar {
        private final Lexer lexer;
        private final Catalog catalog;
        private final Names names;

        CatalogGrammar(Lexer lexer, Catalog catalog) {
            this.lexer = lexer;
            this.catalog = catalog;
            names = catalog.names;
        }

        boolean readStatement() {
            Kind kind = lexer.kind;
            if (kind != Kind.DIMENSION && kind != Kind.MEASURE && kind != Kind.MEMBER) {
                return lexer.tellUnfit();
            }
            if (catalog.isOpen) {
                return lexer.tellHere(Lexer.STATE);
            }
            lexer.advance();
            if (kind == Kind.DIMENSION) {
                return readDimension();
            }
            return kind == Kind.MEASURE ? readMeasure() : readMembers();
        }

        /** Names are kept as they are read: nobody sees them before they are counted. */
        private boolean readDimension() {
            int d = catalog.dimensionCount;
            if (!atNewName(d == Catalog.MAX_DIMENSIONS)) {
                return false;
            }
            names.keep(d, lexer);
            if (!lexer.next(Kind.OPENING)) {
                return false;
            }
            int levels = readLevels(d);
            if (levels == 0 || !lexer.next(Kind.SEMICOLON)) {
                return false;
            }
            catalog.dimensions[d].levelCount = levels;
            catalog.dimensionCount++;
            return true;
        }

        private boolean readMeasure() {
            if (!atNewName(catalog.measureCount == Catalog.MAX_MEASURES)) {
                return false;
            }
            names.keep(Names.MEASURES + catalog.measureCount, lexer);
            if (!lexer.next(Kind.SEMICOLON)) {
                return false;
            }
            catalog.measureCount++;
            return true;
        }

        private boolean atNewName(boolean isFull) {
            if (!lexer.atName()) {
                return false;
            }
            if (catalog.isTaken(lexer)) {
                return lexer.tellHere(Lexer.TAKEN);
            }
            return !isFull || lexer.tellHere(Lexer.MANY);
        }

        /** How many there are, 0 if they are wrong. */
        private int readLevels(int d) {
            int first = Names.LEVELS + Catalog.columnNumber(d, 0);
            for (int level = 0; level <= Dimension.MAX_LEVELS; level++) {
                lexer.advance();
                if (!atNewLevel(first, level)) {
                    return 0;
                }
                names.keep(first + level, lexer);
                lexer.advance();
                if (lexer.kind == Kind.CLOSING) {
                    return level + 1;
                }
                if (!lexer.at(Kind.COMMA)) {
                    return 0;
                }
            }
            return 0;
        }

        private boolean atNewLevel(int first, int level) {
            if (!lexer.atName()) {
                return false;
            }
            if (names.search(first, level, lexer) != NONE) {
                return lexer.tellHere(Lexer.TAKEN);
            }
            return level < Dimension.MAX_LEVELS || lexer.tellHere(Lexer.MANY);
        }

        /** Rows behind the members are filled as they are read: they count at the end, or never. */
        private boolean readMembers() {
            int d = names.read(0, catalog.dimensionCount, lexer);
            if (d == NONE) {
                return false;
            }
            Dimension dimension = catalog.dimensions[d];
            for (int row = dimension.memberCount; row <= Dimension.MAX_MEMBERS; row++) {
                if (!lexer.next(Kind.OPENING) || !readMember(dimension, row)) {
                    return false;
                }
                lexer.advance();
                if (lexer.kind == Kind.SEMICOLON) {
                    dimension.memberCount = row + 1;
                    return true;
                }
                if (!lexer.at(Kind.COMMA)) {
                    return false;
                }
            }
            return false;
        }

        private boolean readMember(Dimension dimension, int row) {
            int place = lexer.start;
            if (row >= Dimension.MAX_MEMBERS) {
                return lexer.tell(Lexer.MANY, place);
            }
            int values = readValues(dimension, row);
            if (values == 0) {
                return false;
            }
            if (values != dimension.levelCount) {
                return lexer.tell(Lexer.MANY, place);
            }
            return dimension.fits(row) || lexer.tell(Lexer.KEY, place);
        }

        /** How many there are, 0 if they are wrong. */
        private int readValues(Dimension dimension, int row) {
            for (int level = 0; level <= Text.ROOM; level++) {
                if (!lexer.next(Kind.NUMBER)) {
                    return 0;
                }
                dimension.prepare(level, row, lexer.number);
                lexer.advance();
                if (lexer.kind == Kind.CLOSING) {
                    return level + 1;
                }
                if (!lexer.at(Kind.COMMA)) {
                    return 0;
                }
            }
            return 0;
        }
    }

    /** A column's value lies within a range or is one of a list; or, negated, it does not. */
    private static final class Comparison {
        static final int MAX_NUMBERS = 40;

        int column;
        boolean isNegated;
        private int low;
        private int high;
        private int listed;
        private final int[] list = new int[MAX_NUMBERS];

        void restart(int newColumn) {
            column = newColumn;
            isNegated = false;
            listed = 0;
        }

        void becomeRange(int first, int last) {
            low = first;
            high = last;
        }

        /** Below a number is not from it on, above it not up to it: so ranges are enough. */
        void becomeRelation(Kind sign, int number) {
            isNegated = sign == Kind.UNEQUAL || sign == Kind.LESS || sign == Kind.MORE;
            boolean isUpToIt = sign == Kind.AT_MOST || sign == Kind.MORE;
            boolean isFromItOn = sign == Kind.AT_LEAST || sign == Kind.LESS;
            low = isUpToIt ? Integer.MIN_VALUE : number;
            high = isFromItOn ? Integer.MAX_VALUE : number;
        }

        /** False if the list is full. */
        boolean addToList(int number) {
            if (listed >= MAX_NUMBERS) {
                return false;
            }
            list[listed] = number;
            listed++;
            return true;
        }

        boolean accepts(int value) {
            boolean isInside = listed == 0 ? low <= value && value <= high : isListed(value);
            return isInside != isNegated;
        }

        private boolean isListed(int value) {
            for (int i = 0; i < listed; i++) {
                if (list[i] == value) {
                    return true;
                }
            }
            return false;
        }
    }

    /**
     * A condition as a row of parts, comparisons first and then joints, each of which joins two
     * parts before it. While it is read each open bracket has a line of its own for what waits
     * there, so that deep brackets and long rows of not take no calls within calls.
     */
    private static final class Condition {
        static final int MAX_COMPARISONS = 60;
        private static final int MAX_JOINTS = MAX_COMPARISONS - 1;
        private static final int MAX_PARTS = MAX_COMPARISONS + MAX_JOINTS;
        private static final int MAX_DEPTH = 40;

        int comparisonCount;
        int depth;
        private final Comparison[] comparisons = new Comparison[MAX_COMPARISONS];
        private int jointCount;
        private final int[] lefts = new int[MAX_JOINTS];
        private final int[] rights = new int[MAX_JOINTS];
        private final boolean[] isAnd = new boolean[MAX_JOINTS];
        private final boolean[] isNegated = new boolean[MAX_PARTS];
        private final boolean[] truths = new boolean[MAX_PARTS];
        private final int[] beforeOr = new int[MAX_DEPTH + 1];
        private final int[] beforeAnd = new int[MAX_DEPTH + 1];
        private final boolean[] isNotAhead = new boolean[MAX_DEPTH + 1];

        Condition() {
            for (int i = 0; i < MAX_COMPARISONS; i++) {
                comparisons[i] = new Comparison();
            }
        }

        void clear() {
            comparisonCount = 0;
            jointCount = 0;
            depth = 0;
            clearLine();
        }

        boolean isFull() {
            return comparisonCount >= MAX_COMPARISONS;
        }

        /** The comparison to fill next, which there is as long as the condition is not full. */
        Comparison coming() {
            return comparisons[comparisonCount];
        }

        void addComing() {
            int part = comparisonCount;
            isNegated[part] = false;
            comparisonCount++;
            attach(part);
        }

        void negateNext() {
            isNotAhead[depth] = !isNotAhead[depth];
        }

        /** False if there are too many open brackets. */
        boolean openBracket() {
            if (depth >= MAX_DEPTH) {
                return false;
            }
            depth++;
            clearLine();
            return true;
        }

        void closeBracket() {
            if (depth > 0) {
                int part = endLine();
                depth--;
                attach(part);
            }
        }

        void startAlternative() {
            beforeOr[depth] = endLine();
            beforeAnd[depth] = NONE;
        }

        /** Makes the whole condition the last part. */
        void finish() {
            endLine();
        }

        boolean isTrueFor(Catalog catalog) {
            if (comparisonCount == 0) {
                return true;
            }
            for (int i = 0; i < comparisonCount; i++) {
                int value = catalog.pickedValue(comparisons[i].column);
                truths[i] = comparisons[i].accepts(value) != isNegated[i];
            }
            for (int joint = 0; joint < jointCount; joint++) {
                boolean left = truths[lefts[joint]];
                boolean right = truths[rights[joint]];
                int part = MAX_COMPARISONS + joint;
                truths[part] = (isAnd[joint] ? left && right : left || right) != isNegated[part];
            }
            return truths[jointCount == 0 ? 0 : MAX_COMPARISONS + jointCount - 1];
        }

        private void clearLine() {
            beforeOr[depth] = NONE;
            beforeAnd[depth] = NONE;
            isNotAhead[depth] = false;
        }

        private void attach(int part) {
            if (isNotAhead[depth]) {
                isNegated[part] = !isNegated[part];
                isNotAhead[depth] = false;
            }
            beforeAnd[depth] = join(true, beforeAnd[depth], part);
        }

        private int endLine() {
            return join(false, beforeOr[depth], beforeAnd[depth]);
        }

        private int join(boolean and, int left, int right) {
            if (left == NONE || jointCount >= MAX_JOINTS) {
                return right;
            }
            int part = MAX_COMPARISONS + jointCount;
            lefts[jointCount] = left;
            rights[jointCount] = right;
            isAnd[jointCount] = and;
            isNegated[part] = false;
            jointCount++;
            return part;
        }
    }

    /** What a question asks; one without items is none. */
    private static final class Question {
        static final int COLUMN = 0;
        static final int SUM = 1;
        static final int MIN = 2;
        static final int MAX = 3;
        static final int COUNT = 4;
        static final int GROUPING = 5;
        static final int MAX_ITEMS = 24;
        static final int MAX_COLUMNS = 8;
        private static final int MAX_SETS = 32;

        int itemCount;
        final int[] itemTypes = new int[MAX_ITEMS];
        final int[] itemTargets = new int[MAX_ITEMS];
        private final int[] itemPlaces = new int[MAX_ITEMS];
        int columnCount;
        final int[] columns = new int[MAX_COLUMNS];
        int setCount;
        final int[] sets = new int[MAX_SETS];
        final Condition condition = new Condition();

        void clear() {
            itemCount = 0;
            columnCount = 0;
            setCount = 0;
            condition.clear();
        }

        void restart() {
            clear();
            sets[0] = 0;
            setCount = 1;
        }

        boolean isAsked() {
            return itemCount > 0;
        }

        void addItem(int type, int target, int place) {
            if (itemCount < MAX_ITEMS) {
                itemTypes[itemCount] = type;
                itemTargets[itemCount] = target;
                itemPlaces[itemCount] = place;
                itemCount++;
            }
        }

        void addColumn(int column) {
            if (columnCount < MAX_COLUMNS) {
                columns[columnCount] = column;
                columnCount++;
            }
        }

        boolean hasColumn(int column) {
            for (int k = 0; k < columnCount; k++) {
                if (columns[k] == column) {
                    return true;
                }
            }
            return false;
        }

        /**
         * Takes the last columns, so many, as a group of a shape (rollup, cube or any other for a
         * column alone); false if there are too many grouping sets. The greatest stays first, as a
         * group's columns count more than all before it.
         */
        boolean addGroup(Kind shape, int size) {
            int choices = shape == Kind.CUBE ? 1 << size : shape == Kind.ROLLUP ? size + 1 : 1;
            if (choices * setCount > MAX_SETS || size > columnCount) {
                return false;
            }
            int shift = columnCount - size;
            // The first choice comes last, as its sets stand where those before the group stood.
            for (int choice = choices - 1; choice >= 0; choice--) {
                int chosen = chosenColumns(shape, size, choice) << shift;
                for (int i = 0; i < setCount; i++) {
                    sets[choice * setCount + i] = sets[i] | chosen;
                }
            }
            setCount *= choices;
            return true;
        }

        /** Where the first item begins that needs a group column and has none; NONE if all do. */
        int firstUngrouped() {
            for (int i = 0; i < itemCount; i++) {
                boolean isOfColumn = itemTypes[i] == COLUMN || itemTypes[i] == GROUPING;
                if (isOfColumn && !hasColumn(itemTargets[i])) {
                    return itemPlaces[i];
                }
            }
            return NONE;
        }

        private static int chosenColumns(Kind shape, int size, int choice) {
            int all = (1 << size) - 1;
            return shape == Kind.ROLLUP ? all >> choice : all - choice;
        }
    }

    /** Reads each question into the draft, which changes places with the latest if it is right. */
    private static final class QuestionGrammar {
        private final Lexer lexer;
        private final Catalog catalog;
        private final Names names;
        Question latest = new Question();
        private Question draft = new Question();

        QuestionGrammar(Lexer lexer, Catalog catalog) {
            this.lexer = lexer;
            this.catalog = catalog;
            names = catalog.names;
        }

        boolean readQuestion() {
            if (!catalog.isOpen) {
                return lexer.tellHere(Lexer.STATE);
            }
            draft.restart();
            if (!readItems()) {
                return false;
            }
            if (lexer.kind == Kind.WHERE && !readWhere()) {
                return false;
            }
            if (lexer.kind == Kind.GROUP && !readGroups()) {
                return false;
            }
            if (!lexer.at(Kind.SEMICOLON)) {
                return false;
            }
            int ungrouped = draft.firstUngrouped();
            if (ungrouped != NONE) {
                return lexer.tell(Lexer.GROUP, ungrouped);
            }
            Question before = latest;
            latest = draft;
            draft = before;
            return true;
        }

        /** Goes on to what stands behind the items. */
        private boolean readItems() {
            for (int items = 0; items <= Question.MAX_ITEMS; items++) {
                lexer.advance();
                if (!readItem()) {
                    return false;
                }
                lexer.advance();
                if (lexer.kind != Kind.COMMA) {
                    return true;
                }
            }
            return false;
        }

        private boolean readItem() {
            int place = lexer.start;
            int type = itemType(lexer.kind);
            boolean isFull = draft.itemCount == Question.MAX_ITEMS;
            int target;
            if (type == Question.COLUMN) {
                target = readColumn(isFull);
            } else {
                if (isFull) {
                    return lexer.tellHere(Lexer.MANY);
                }
                if (!lexer.next(Kind.OPENING)) {
                    return false;
                }
                lexer.advance();
                target = type == Question.GROUPING ? readColumn(false) : readSummed(type);
                if (target == NONE || !lexer.next(Kind.CLOSING)) {
                    return false;
                }
            }
            draft.addItem(type, target, place);
            return target != NONE;
        }

        /** The measure, or 0 for the * of count; NONE if it is wrong. */
        private int readSummed(int type) {
            if (type == Question.COUNT) {
                return lexer.at(Kind.STAR) ? 0 : NONE;
            }
            return names.read(Names.MEASURES, catalog.measureCount, lexer);
        }

        /** The column's number, NONE if it is wrong; isFull: what it begins would be one too many. */
        private int readColumn(boolean isFull) {
            int d = names.read(0, catalog.dimensionCount, lexer);
            if (d == NONE) {
                return NONE;
            }
            if (isFull) {
                lexer.tellHere(Lexer.MANY);
                return NONE;
            }
            if (!lexer.next(Kind.DOT)) {
                return NONE;
            }
            lexer.advance();
            int first = Names.LEVELS + Catalog.columnNumber(d, 0);
            int level = names.read(first, catalog.dimensions[d].levelCount, lexer);
            return level == NONE ? NONE : Catalog.columnNumber(d, level);
        }

        /** Goes on to what stands behind the condition. */
        private boolean readWhere() {
            Condition condition = draft.condition;
            lexer.advance();
            for (int parts = 0; parts <= Text.ROOM; parts++) {
                if (lexer.kind == Kind.NOT) {
                    condition.negateNext();
                } else if (lexer.kind == Kind.OPENING) {
                    if (!condition.openBracket()) {
                        return lexer.tellHere(Lexer.MANY);
                    }
                } else {
                    if (!readComparison(condition)) {
                        return false;
                    }
                    condition.addComing();
                    readClosings(condition);
                    if (lexer.kind == Kind.OR) {
                        condition.startAlternative();
                    } else if (lexer.kind != Kind.AND) {
                        condition.finish();
                        return condition.depth == 0 || lexer.tellUnfit();
                    }
                }
                lexer.advance();
            }
            return false;
        }

        private void readClosings(Condition condition) {
            lexer.advance();
            for (int left = condition.depth; left > 0 && lexer.kind == Kind.CLOSING; left--) {
                condition.closeBracket();
                lexer.advance();
            }
        }

        private boolean readComparison(Condition condition) {
            boolean isFull = condition.isFull();
            int column = readColumn(isFull);
            if (isFull || column == NONE) {
                return false;
            }
            Comparison comparison = condition.coming();
            comparison.restart(column);
            lexer.advance();
            if (lexer.kind == Kind.NOT) {
                comparison.isNegated = true;
                return lexer.next(Kind.IN) && readList(comparison);
            }
            if (lexer.kind == Kind.IN) {
                return readList(comparison);
            }
            return lexer.kind == Kind.BETWEEN ? readBetween(comparison) : readRelation(comparison);
        }

        private boolean readRelation(Comparison comparison) {
            Kind sign = lexer.kind;
            if (!isRelation(sign)) {
                return lexer.tellUnfit();
            }
            if (!lexer.next(Kind.NUMBER)) {
                return false;
            }
            comparison.becomeRelation(sign, lexer.number);
            return true;
        }

        private boolean readBetween(Comparison comparison) {
            if (!lexer.next(Kind.NUMBER)) {
                return false;
            }
            int first = lexer.number;
            if (!lexer.next(Kind.AND) || !lexer.next(Kind.NUMBER)) {
                return false;
            }
            comparison.becomeRange(first, lexer.number);
            return true;
        }

        private boolean readList(Comparison comparison) {
            if (!lexer.next(Kind.OPENING)) {
                return false;
            }
            for (int numbers = 0; numbers <= Comparison.MAX_NUMBERS; numbers++) {
                if (!lexer.next(Kind.NUMBER)) {
                    return false;
                }
                if (!comparison.addToList(lexer.number)) {
                    return lexer.tellHere(Lexer.MANY);
                }
                lexer.advance();
                if (lexer.kind == Kind.CLOSING) {
                    return true;
                }
                if (!lexer.at(Kind.COMMA)) {
                    return false;
                }
            }
            return false;
        }

        /** Goes on to what stands behind the groups. */
        private boolean readGroups() {
            int place = lexer.start;
            if (!lexer.next(Kind.BY)) {
                return false;
            }
            for (int groups = 0; groups <= Question.MAX_COLUMNS; groups++) {
                lexer.advance();
                Kind shape = lexer.kind;
                int size = readGroup(shape == Kind.ROLLUP || shape == Kind.CUBE);
                if (size == 0) {
                    return false;
                }
                if (!draft.addGroup(shape, size)) {
                    return lexer.tell(Lexer.MANY, place);
                }
                lexer.advance();
                if (lexer.kind != Kind.COMMA) {
                    return true;
                }
            }
            return false;
        }

        /** How many columns the group has, 0 if it is wrong. */
        private int readGroup(boolean isInBrackets) {
            if (isInBrackets) {
                if (!lexer.next(Kind.OPENING)) {
                    return 0;
                }
                lexer.advance();
            }
            for (int size = 1; size <= Question.MAX_COLUMNS + 1; size++) {
                int place = lexer.start;
                int column = readColumn(draft.columnCount == Question.MAX_COLUMNS);
                if (column == NONE) {
                    return 0;
                }
                if (draft.hasColumn(column)) {
                    lexer.tell(Lexer.TWICE, place);
                    return 0;
                }
                draft.addColumn(column);
                if (!isInBrackets) {
                    return size;
                }
                lexer.advance();
                if (lexer.kind == Kind.CLOSING) {
                    return size;
                }
                if (!lexer.at(Kind.COMMA)) {
                    return 0;
                }
                lexer.advance();
            }
            return 0;
        }

        private static int itemType(Kind kind) {
            if (kind == Kind.SUM) {
                return Question.SUM;
            }
            if (kind == Kind.MIN) {
                return Question.MIN;
            }
            if (kind == Kind.MAX) {
                return Question.MAX;
            }
            if (kind == Kind.COUNT) {
                return Question.COUNT;
            }
            return kind == Kind.GROUPING ? Question.GROUPING : Question.COLUMN;
        }

        private static boolean isRelation(Kind kind) {
            return kind == Kind.EQUAL || kind == Kind.UNEQUAL || kind == Kind.LESS
                    || kind == Kind.AT_MOST || kind == Kind.MORE || kind == Kind.AT_LEAST;
        }
    }
}
