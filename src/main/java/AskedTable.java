import java.util.NoSuchElementException;

/**
 * A table read strictly from comma-separated values, and questions in a small language about it.
 *
 * All room is made with the object and used again: no call makes anything but the exception
 * that it throws.
 */
public final class AskedTable {
    public static final int NONE = -1;

    private static final int TEXT_ROOM = 240;
    private static final int QUESTION_ROOM = 96;
    // A cell is written at most two marks longer than it was typed, and a line has two of them, or
    // one and a sum of up to 20 characters: with names, commas and line ends that stays below 700.
    private static final int OUT_ROOM = 700;
    private static final int MOST_PUT = 8;
    private static final int MAX_COLUMNS = 6;
    private static final int MAX_ROWS = 16;
    private static final int MAX_CELLS = MAX_COLUMNS * (1 + MAX_ROWS);

    private static final int INT = 0;
    private static final int LONG = 1;
    private static final int DATE = 2;
    private static final int TEXT = 3;

    private final Chars text = new Chars(TEXT_ROOM);
    private final Chars question = new Chars(QUESTION_ROOM);
    private final Chars written = new Chars(OUT_ROOM);
    private final Records records = new Records();
    private final Table table = new Table();
    private final Question asked = new Question();
    private final Answer answer = new Answer();
    private int faultPlace = NONE;

    public AskedTable() {
    }

    public boolean put(boolean question, long w, int n) {
        Chars target = question ? this.question : text;
        if (n < 1 || n > MOST_PUT || n > target.free()) {
            return false;
        }
        for (int i = 0; i < n; i++) {
            if (!mayStand(byteOf(w, i), question)) {
                return false;
            }
        }
        for (int i = 0; i < n; i++) {
            target.add(byteOf(w, i));
        }
        return true;
    }

    public boolean cut(boolean question, int n) {
        Chars target = question ? this.question : text;
        if (n < 0 || n > target.length) {
            return false;
        }
        target.keepFirst(n);
        return true;
    }

    public int load() throws IllegalArgumentException, IllegalStateException, NoSuchElementException, UnsupportedOperationException {
        if (!records.find(text)) {
            throw new IllegalArgumentException("the marks or line ends are wrong");
        }
        if (!records.areEven()) {
            throw new IllegalStateException("the records have not as many fields, or too many");
        }
        if (!records.haveNames(text)) {
            throw new NoSuchElementException("the header is missing, or a name in it is none");
        }
        if (records.count - 1 > MAX_ROWS) {
            throw new UnsupportedOperationException("there are too many rows");
        }
        table.take(records, text);
        answer.given = false;
        return table.rows;
    }

    public int columns() {
        return table.columns;
    }

    public int type(int column) throws IndexOutOfBoundsException {
        if (!table.hasColumn(column)) {
            throw new IndexOutOfBoundsException("no such column");
        }
        return table.typeAt(column);
    }

    public boolean isMissing(int row, int column) throws IndexOutOfBoundsException {
        if (!table.hasCell(row, column)) {
            throw new IndexOutOfBoundsException("no such cell");
        }
        return table.lacks(row, column);
    }

    public long value(int row, int column) throws IndexOutOfBoundsException, IllegalStateException, NoSuchElementException {
        if (!table.hasCell(row, column)) {
            throw new IndexOutOfBoundsException("no such cell");
        }
        if (table.typeAt(column) == TEXT) {
            throw new IllegalStateException("a text has no value");
        }
        if (table.lacks(row, column)) {
            throw new NoSuchElementException("the cell is missing");
        }
        return table.valueAt(row, column);
    }

    public int ask() throws IllegalStateException, IllegalArgumentException, UnsupportedOperationException {
        if (table.columns == 0) {
            throw new IllegalStateException("there is no table");
        }
        answer.given = false;
        asked.tokens.split(question, table);
        faultPlace = asked.read();
        if (faultPlace != NONE) {
            throw new IllegalArgumentException("it is no question");
        }
        answer.take(asked, asked.choose(question, table));
        answer.sortRows(table, asked.falling);
        if (!answer.putTogether(table)) {
            throw new UnsupportedOperationException("a sum is beyond the longs");
        }
        answer.given = true;
        return answer.size;
    }

    public int fault() {
        return faultPlace;
    }

    public int lines() {
        return answer.given ? answer.size : NONE;
    }

    public int line(int k) throws IllegalStateException, IndexOutOfBoundsException {
        if (!answer.given) {
            throw new IllegalStateException("there is no answer");
        }
        if (!answer.has(k)) {
            throw new IndexOutOfBoundsException("no such row or line");
        }
        return answer.kind == Word.ROWS ? answer.rows[k] : answer.counts[k];
    }

    public long aggregate(int k) throws IllegalStateException, IndexOutOfBoundsException, NoSuchElementException {
        if (!answer.given || !answer.hasValues(table)) {
            throw new IllegalStateException("there is no answer with values");
        }
        if (!answer.has(k)) {
            throw new IndexOutOfBoundsException("no such line");
        }
        if (answer.lacking[k]) {
            throw new NoSuchElementException("the aggregate is missing");
        }
        return answer.values[k];
    }

    public int write(boolean answer) throws IllegalStateException {
        if (answer ? !this.answer.given : table.columns == 0) {
            throw new IllegalStateException("there is nothing to write");
        }
        written.keepFirst(0);
        if (answer) {
            this.answer.writeTo(written, table);
        } else {
            table.writeTo(written);
        }
        return written.length;
    }

    public int out(int i) throws IndexOutOfBoundsException {
        int c = written.at(i);
        if (c == NONE) {
            throw new IndexOutOfBoundsException("no such character");
        }
        return c;
    }

    private static int byteOf(long w, int i) {
        return (int) (w >>> (8 * i)) & 255;
    }

    private static boolean mayStand(int c, boolean question) {
        return c >= 32 && c <= 126 || !question && (c == 10 || c == 13);
    }

    private static boolean isLetter(int c) {
        return c >= 'a' && c <= 'z';
    }

    private static boolean isDigit(int c) {
        return c >= '0' && c <= '9';
    }

    /** The words of questions; a reserved one names no column. */
    private enum Word {
        ROWS("rows", false), COUNT("count", false), SUM("sum", false),
        LEAST("least", false), MOST("most", false),
        BY("by", true), WHERE("where", true), AND("and", true), OR("or", true), NOT("not", true),
        IS("is", true), NULL("null", true), ORDER("order", true), DESC("desc", true),
        OTHER("", false);

        private static final Word[] ALL = values();

        private final String spelling;
        private final boolean reserved;

        Word(String spelling, boolean reserved) {
            this.spelling = spelling;
            this.reserved = reserved;
        }

        static Word spelled(Chars chars, int from, int to) {
            for (Word word : ALL) {
                if (chars.spells(from, to, word.spelling)) {
                    return word;
                }
            }
            return OTHER;
        }
    }

    /** A row of characters up to its room; a stretch of it is told by its first place and the one behind it. */
    private static final class Chars {
        private static final int[] DAYS = {31, 28, 31, 30, 31, 30, 31, 31, 30, 31, 30, 31};
        private static final String GREATEST = "9223372036854775807";
        private static final String GREATEST_BELOW_ZERO = "9223372036854775808";
        private static final long GREATEST_POWER = 1000000000000000000L;
        private static final int DATE_LENGTH = 10;

        private final char[] chars;
        private int length;

        Chars(int room) {
            chars = new char[room];
        }

        int at(int i) {
            return i >= 0 && i < length && i < chars.length ? chars[i] : NONE;
        }

        int free() {
            return chars.length - length;
        }

        void add(int c) {
            if (length < chars.length) {
                chars[length] = (char) c;
                length++;
            }
        }

        void addWord(String word) {
            for (int i = 0; i < word.length(); i++) {
                add(word.charAt(i));
            }
        }

        void addNumber(long number) {
            if (number < 0) {
                add('-');
            }
            // Below zero, since the least long has no counterpart above it.
            long below = number < 0 ? number : -number;
            boolean started = false;
            for (long power = GREATEST_POWER; power > 0; power = power / 10) {
                int digit = (int) -(below / power % 10);
                started = started || digit != 0 || power == 1;
                if (started) {
                    add('0' + digit);
                }
            }
        }

        void keepFirst(int n) {
            if (n >= 0 && n <= length) {
                length = n;
            }
        }

        int endOfLetters(int from) {
            int i = from;
            while (i < length && isLetter(at(i))) {
                i++;
            }
            return i;
        }

        int endOfDigits(int from) {
            int i = from;
            while (i < length && (isDigit(at(i)) || at(i) == '-')) {
                i++;
            }
            return i;
        }

        /** The place of c, the length if there is none. */
        int placeOf(int c, int from) {
            int i = from;
            while (i < length && at(i) != c) {
                i++;
            }
            return i;
        }

        boolean spells(int from, int to, String word) {
            if (to - from != word.length()) {
                return false;
            }
            for (int i = 0; i < word.length(); i++) {
                if (at(from + i) != word.charAt(i)) {
                    return false;
                }
            }
            return true;
        }

        int compareWith(int from, int to, Chars other, int otherFrom, int otherTo) {
            int shorter = Math.min(to - from, otherTo - otherFrom);
            for (int i = 0; i < shorter; i++) {
                int difference = at(from + i) - other.at(otherFrom + i);
                if (difference != 0) {
                    return difference;
                }
            }
            return (to - from) - (otherTo - otherFrom);
        }

        /** The type that a plain cell with these characters would have alone. */
        int shapeOf(int from, int to) {
            if (isWhole(from, to)) {
                long number = digitsOf(from, to);
                return number == (int) number ? INT : LONG;
            }
            return isDate(from, to) ? DATE : TEXT;
        }

        /** The value of a whole number, and of a date, whose digits in a row are its value. */
        long digitsOf(int from, int to) {
            long below = 0;
            for (int i = from; i < to; i++) {
                if (isDigit(at(i))) {
                    below = below * 10 - (at(i) - '0');
                }
            }
            return at(from) == '-' ? below : -below;
        }

        private boolean isWhole(int from, int to) {
            int first = at(from) == '-' ? from + 1 : from;
            if (first >= to) {
                return false;
            }
            if (at(first) == '0') {
                return first == from && to == from + 1;
            }
            for (int i = first; i < to; i++) {
                if (!isDigit(at(i))) {
                    return false;
                }
            }
            String bound = first > from ? GREATEST_BELOW_ZERO : GREATEST;
            int beyond = to - first - bound.length();
            for (int i = 0; i < bound.length() && beyond == 0; i++) {
                beyond = at(first + i) - bound.charAt(i);
            }
            return beyond <= 0;
        }

        private boolean isDate(int from, int to) {
            if (to - from != DATE_LENGTH) {
                return false;
            }
            for (int i = 0; i < DATE_LENGTH; i++) {
                boolean fits = i == 4 || i == 7 ? at(from + i) == '-' : isDigit(at(from + i));
                if (!fits) {
                    return false;
                }
            }
            return isDay((int) digitsOf(from, from + 4), (int) digitsOf(from + 5, from + 7), (int) digitsOf(from + 8, to));
        }

        private static boolean isDay(int year, int month, int day) {
            if (year < 1 || month < 1 || month > DAYS.length || day < 1) {
                return false;
            }
            boolean leap = year % 4 == 0 && (year % 100 != 0 || year % 400 == 0);
            return day <= DAYS[month - 1] + (leap && month == 2 ? 1 : 0);
        }
    }

    /** Where the fields of a text begin and end. Fields beyond those a table can have are only counted. */
    private static final class Records {
        private static final int LONGEST_NAME = 6;

        private static final int NEW_RECORD = 0;
        private static final int NEW_FIELD = 1;
        private static final int IN_PLAIN = 2;
        private static final int IN_QUOTED = 3;
        private static final int BEHIND_MARK = 4;
        private static final int BEHIND_RETURN = 5;
        private static final int WRONG = 6;

        private final int[] from = new int[MAX_CELLS];
        private final int[] to = new int[MAX_CELLS];
        private final boolean[] quoted = new boolean[MAX_CELLS];
        private int fields;
        private int count;
        private int width;
        private int fieldsOfRecord;
        private int fieldStart;
        private boolean sameWidth;

        /** Whether marks and line ends stand where they may. */
        boolean find(Chars text) {
            fields = 0;
            count = 0;
            width = 0;
            fieldsOfRecord = 0;
            fieldStart = 0;
            sameWidth = true;
            int state = NEW_RECORD;
            for (int i = 0; i < text.length; i++) {
                state = stateBehind(state, text.at(i), i);
            }
            if (state == NEW_FIELD || state == IN_PLAIN || state == BEHIND_MARK) {
                endField(text.length, state == BEHIND_MARK);
                state = endRecord(text.length);
            }
            return state == NEW_RECORD;
        }

        boolean areEven() {
            return sameWidth && width <= MAX_COLUMNS;
        }

        boolean haveNames(Chars text) {
            if (count == 0) {
                return false;
            }
            for (int i = 0; i < width && i < MAX_COLUMNS; i++) {
                if (!isName(text, from[i], to[i])) {
                    return false;
                }
                for (int j = 0; j < i; j++) {
                    if (text.compareWith(from[i], to[i], text, from[j], to[j]) == 0) {
                        return false;
                    }
                }
            }
            return true;
        }

        private static boolean isName(Chars text, int from, int to) {
            return to > from && to - from <= LONGEST_NAME && text.endOfLetters(from) >= to
                    && !Word.spelled(text, from, to).reserved;
        }

        private int stateBehind(int state, int c, int i) {
            if (state == WRONG) {
                return WRONG;
            }
            if (state == IN_QUOTED) {
                return c == '"' ? BEHIND_MARK : IN_QUOTED;
            }
            if (state == BEHIND_RETURN) {
                return c == 10 ? endRecord(i + 1) : WRONG;
            }
            if (c == '"') {
                return state == IN_PLAIN ? WRONG : IN_QUOTED;
            }
            if (c != ',' && c != 10 && c != 13) {
                return state == BEHIND_MARK ? WRONG : IN_PLAIN;
            }
            endField(i, state == BEHIND_MARK);
            if (c == 13) {
                return BEHIND_RETURN;
            }
            if (c == 10) {
                return endRecord(i + 1);
            }
            fieldStart = i + 1;
            return NEW_FIELD;
        }

        private void endField(int end, boolean inMarks) {
            if (fields < MAX_CELLS) {
                from[fields] = inMarks ? fieldStart + 1 : fieldStart;
                to[fields] = inMarks ? end - 1 : end;
                quoted[fields] = inMarks;
            }
            fields++;
            fieldsOfRecord++;
        }

        private int endRecord(int nextStart) {
            if (count == 0) {
                width = fieldsOfRecord;
            } else if (fieldsOfRecord != width) {
                sameWidth = false;
            }
            count++;
            fieldsOfRecord = 0;
            fieldStart = nextStart;
            return NEW_RECORD;
        }
    }

    /** The table: its header's fields and its cells, record by record. Without columns there is none. */
    private static final class Table {
        // A copy, since the text may change while the table stays.
        private final Chars chars = new Chars(TEXT_ROOM);
        private final int[] from = new int[MAX_CELLS];
        private final int[] to = new int[MAX_CELLS];
        private final boolean[] quoted = new boolean[MAX_CELLS];
        private final int[] shape = new int[MAX_CELLS];
        private final long[] values = new long[MAX_CELLS];
        private final int[] types = new int[MAX_COLUMNS];
        private int rows;
        private int columns;

        void take(Records records, Chars text) {
            columns = Math.min(records.width, MAX_COLUMNS);
            rows = Math.min(records.count - 1, MAX_ROWS);
            chars.keepFirst(0);
            for (int k = 0; k < records.fields && k < MAX_CELLS; k++) {
                from[k] = chars.length;
                addUndoubled(text, records.from[k], records.to[k]);
                to[k] = chars.length;
                quoted[k] = records.quoted[k];
                shape[k] = chars.shapeOf(from[k], to[k]);
                values[k] = shape[k] == TEXT ? 0 : chars.digitsOf(from[k], to[k]);
            }
            for (int c = 0; c < columns; c++) {
                types[c] = findType(c);
            }
        }

        boolean hasColumn(int column) {
            return column >= 0 && column < columns;
        }

        boolean hasCell(int row, int column) {
            return cellAt(row, column) != NONE;
        }

        int typeAt(int column) {
            return hasColumn(column) ? types[column] : TEXT;
        }

        boolean lacks(int row, int column) {
            int k = cellAt(row, column);
            return k == NONE || isGone(k);
        }

        long valueAt(int row, int column) {
            int k = cellAt(row, column);
            return k == NONE ? 0 : values[k];
        }

        int columnNamed(Chars other, int otherFrom, int otherTo) {
            for (int c = 0; c < columns && c < MAX_COLUMNS; c++) {
                if (chars.compareWith(from[c], to[c], other, otherFrom, otherTo) == 0) {
                    return c;
                }
            }
            return NONE;
        }

        /** The order of two cells that may be compared and are not missing. */
        int compareCells(int row, int column, int otherRow, int otherColumn) {
            int k = cellAt(row, column);
            int other = cellAt(otherRow, otherColumn);
            if (k == NONE || other == NONE) {
                return 0;
            }
            return typeAt(column) == TEXT
                    ? chars.compareWith(from[k], to[k], chars, from[other], to[other])
                    : Long.compare(values[k], values[other]);
        }

        /** The order of a cell that is not missing and a token that it may be compared with. */
        int compareWithToken(int row, int column, Token token, Chars question) {
            int k = cellAt(row, column);
            if (k == NONE) {
                return 0;
            }
            return typeAt(column) == TEXT
                    ? chars.compareWith(from[k], to[k], question, token.from + 1, token.to - 1)
                    : Long.compare(values[k], token.value);
        }

        /** The order of two rows by a column, missing cells first. */
        int compareRows(int row, int otherRow, int column) {
            boolean gone = lacks(row, column);
            boolean otherGone = lacks(otherRow, column);
            if (gone || otherGone) {
                return gone == otherGone ? 0 : gone ? -1 : 1;
            }
            return compareCells(row, column, otherRow, column);
        }

        void writeTo(Chars out) {
            writeNames(out);
            for (int row = 0; row < rows; row++) {
                writeRow(row, out);
            }
        }

        void writeNames(Chars out) {
            for (int c = 0; c < columns; c++) {
                writeName(c, out);
                out.add(c + 1 < columns ? ',' : 10);
            }
        }

        void writeName(int column, Chars out) {
            if (hasColumn(column)) {
                addStretch(from[column], to[column], false, out);
            }
        }

        void writeRow(int row, Chars out) {
            for (int c = 0; c < columns; c++) {
                writeCell(row, c, out);
                out.add(c + 1 < columns ? ',' : 10);
            }
        }

        void writeCell(int row, int column, Chars out) {
            int k = cellAt(row, column);
            if (k == NONE || isGone(k)) {
                return;
            }
            boolean marks = typeAt(column) == TEXT && needsMarks(k);
            if (marks) {
                out.add('"');
            }
            addStretch(from[k], to[k], marks, out);
            if (marks) {
                out.add('"');
            }
        }

        private int cellAt(int row, int column) {
            boolean there = row >= 0 && row < rows && column >= 0 && column < columns;
            return there ? (row + 1) * columns + column : NONE;
        }

        private boolean isGone(int k) {
            return !quoted[k] && from[k] == to[k];
        }

        /** Plain fields have no marks, so both kinds are taken the same way. */
        private void addUndoubled(Chars text, int start, int end) {
            for (int i = start; i < end; i += text.at(i) == '"' ? 2 : 1) {
                chars.add(text.at(i));
            }
        }

        private void addStretch(int start, int end, boolean doubled, Chars out) {
            for (int i = start; i < end; i++) {
                if (doubled && chars.at(i) == '"') {
                    out.add('"');
                }
                out.add(chars.at(i));
            }
        }

        private int findType(int column) {
            for (int type = INT; type < TEXT; type++) {
                if (allFit(column, type)) {
                    return type;
                }
            }
            return TEXT;
        }

        private boolean allFit(int column, int type) {
            for (int row = 0; row < rows; row++) {
                int k = cellAt(row, column);
                if (k != NONE && !isGone(k) && !fits(k, type)) {
                    return false;
                }
            }
            return true;
        }

        private boolean fits(int k, int type) {
            return !quoted[k] && (shape[k] == type || shape[k] == INT && type == LONG);
        }

        /** Whether a text would be read as something else without marks. */
        private boolean needsMarks(int k) {
            if (from[k] == to[k] || shape[k] != TEXT) {
                return true;
            }
            for (int i = from[k]; i < to[k]; i++) {
                int c = chars.at(i);
                if (c == ',' || c == '"' || c == 10 || c == 13) {
                    return true;
                }
            }
            return false;
        }
    }

    /** A piece of a question. What does not hold of it is NONE, OTHER or 0. */
    private static final class Token {
        private static final int WRONG = 0;
        private static final int WORD = 1;
        private static final int LITERAL = 2;
        private static final int COMPARISON = 3;
        private static final int OPEN = 4;
        private static final int CLOSE = 5;
        private static final int END = 6;

        private int kind = END;
        private int from;
        private int to;
        private Word word = Word.OTHER;
        private int column = NONE;
        private int sort = NONE;
        private long value;
        private int outcomes;

        void become(int newKind, int start, int end) {
            kind = newKind;
            from = start;
            to = end;
            word = Word.OTHER;
            column = NONE;
            sort = NONE;
            value = 0;
            outcomes = 0;
        }

        /** What may be compared is of one sort: ints and longs are both numbers. */
        static int sortOf(int type) {
            return type == INT ? LONG : type;
        }
    }

    /** The tokens of a question, an END behind the last one. */
    private static final class Tokens {
        private static final int LESS = 1;
        private static final int SAME = 2;
        private static final int MORE = 4;

        private final Token[] tokens = new Token[QUESTION_ROOM + 1];
        private int count;

        Tokens() {
            for (int i = 0; i < tokens.length; i++) {
                tokens[i] = new Token();
            }
        }

        Token get(int i) {
            return tokens[i >= 0 && i < count ? i : count];
        }

        void split(Chars question, Table table) {
            count = 0;
            int i = 0;
            // Each turn goes on by one character or more.
            for (int turn = 0; turn < QUESTION_ROOM && i < question.length; turn++) {
                int c = question.at(i);
                Token token = tokens[count];
                if (c == ' ') {
                    i++;
                    continue;
                }
                if (isLetter(c)) {
                    readWord(token, question, i, table);
                } else if (isDigit(c) || c == '-') {
                    readDigits(token, question, i);
                } else if (c == '\'') {
                    readText(token, question, i);
                } else {
                    readSign(token, question, i);
                }
                count++;
                i = token.to;
            }
            tokens[count].become(Token.END, question.length, question.length);
        }

        private static void readWord(Token token, Chars question, int start, Table table) {
            int behind = question.endOfLetters(start);
            token.become(Token.WORD, start, behind);
            token.word = Word.spelled(question, start, behind);
            token.column = table.columnNamed(question, start, behind);
            if (token.column != NONE) {
                token.sort = Token.sortOf(table.typeAt(token.column));
            }
        }

        private static void readDigits(Token token, Chars question, int start) {
            int behind = question.endOfDigits(start);
            int shape = question.shapeOf(start, behind);
            if (shape == TEXT) {
                token.become(Token.WRONG, start, behind);
            } else {
                token.become(Token.LITERAL, start, behind);
                token.sort = Token.sortOf(shape);
                token.value = question.digitsOf(start, behind);
            }
        }

        private static void readText(Token token, Chars question, int start) {
            int close = question.placeOf('\'', start + 1);
            if (close == question.length) {
                token.become(Token.WRONG, start, close);
            } else {
                token.become(Token.LITERAL, start, close + 1);
                token.sort = Token.sortOf(TEXT);
            }
        }

        private static void readSign(Token token, Chars question, int start) {
            int c = question.at(start);
            int next = question.at(start + 1);
            if (c == '(' || c == ')') {
                token.become(c == '(' ? Token.OPEN : Token.CLOSE, start, start + 1);
            } else if (c == '=') {
                becomeComparison(token, start, 1, SAME);
            } else if (c == '<' && next == '>') {
                becomeComparison(token, start, 2, LESS | MORE);
            } else if (c == '<' || c == '>') {
                int strict = c == '<' ? LESS : MORE;
                becomeComparison(token, start, next == '=' ? 2 : 1, next == '=' ? strict | SAME : strict);
            } else {
                token.become(Token.WRONG, start, start + 1);
            }
        }

        private static void becomeComparison(Token token, int start, int length, int outcomes) {
            token.become(Token.COMPARISON, start, start + length);
            token.outcomes = outcomes;
        }

        /** Whether a comparison sign is true of what a comparison gave. */
        static boolean holds(Token sign, int order) {
            int outcome = order < 0 ? LESS : order > 0 ? MORE : SAME;
            return (sign.outcomes & outcome) != 0;
        }
    }

    /**
     * A question as it is read. Its condition is kept as steps: a comparison as the number of its
     * first token (it has three), and, or and not behind what they join.
     *
     * The truth of a condition is kept for all rows at once: bit r tells whether it is true of
     * row r, bit MAX_ROWS + r whether it is false; unknown is neither.
     */
    private static final class Question {
        private static final int MAX_DEPTH = 8;
        private static final int AND = -1;
        private static final int OR = -2;
        private static final int NOT = -3;
        private static final int TRUE_BITS = (1 << MAX_ROWS) - 1;

        private final Tokens tokens = new Tokens();
        private final int[] steps = new int[QUESTION_ROOM];
        private final int[] stack = new int[QUESTION_ROOM];
        private int stepCount;
        private int place;
        private int wrongAt;
        private Word kind = Word.ROWS;
        private int column;
        private int key;
        private boolean falling;

        /** The place of the fault in the split question, or NONE. Behind a fault nothing is taken. */
        int read() {
            stepCount = 0;
            place = 0;
            wrongAt = NONE;
            kind = Word.ROWS;
            column = NONE;
            key = NONE;
            falling = false;
            boolean ofRows = takeWord(Word.ROWS);
            if (!ofRows) {
                readAggregate();
            }
            if (!ofRows && takeWord(Word.BY)) {
                key = readName(false);
            }
            if (takeWord(Word.WHERE)) {
                readCondition(0);
            }
            if (ofRows && takeWord(Word.ORDER)) {
                key = readName(false);
                falling = takeWord(Word.DESC);
            }
            readKind(Token.END);
            return wrongAt;
        }

        /** The chosen rows, a bit each. */
        int choose(Chars question, Table table) {
            if (stepCount == 0) {
                return (1 << table.rows) - 1;
            }
            int height = 0;
            for (int i = 0; i < stepCount && i < steps.length; i++) {
                int step = steps[i];
                if (step >= 0 && height < stack.length) {
                    stack[height] = truthOf(step, question, table);
                    height++;
                } else if (step == NOT && height > 0) {
                    stack[height - 1] = turned(stack[height - 1]);
                } else if (height > 1) {
                    height--;
                    stack[height - 1] = join(step, stack[height - 1], stack[height]);
                }
            }
            return stack[0] & TRUE_BITS;
        }

        private static int turned(int truth) {
            return (truth << MAX_ROWS) | (truth >>> MAX_ROWS);
        }

        private static int join(int step, int one, int other) {
            int both = one & other;
            int either = one | other;
            return step == AND
                    ? (both & TRUE_BITS) | (either & ~TRUE_BITS)
                    : (either & TRUE_BITS) | (both & ~TRUE_BITS);
        }

        private int truthOf(int first, Chars question, Table table) {
            int truth = 0;
            for (int row = 0; row < table.rows; row++) {
                truth |= truthIn(row, first, question, table);
            }
            return truth;
        }

        private int truthIn(int row, int first, Chars question, Table table) {
            int left = tokens.get(first).column;
            Token sign = tokens.get(first + 1);
            Token right = tokens.get(first + 2);
            boolean gone = table.lacks(row, left);
            if (sign.word == Word.IS) {
                return bitOf(row, gone);
            }
            if (gone || right.column != NONE && table.lacks(row, right.column)) {
                return 0;
            }
            int order = right.column != NONE
                    ? table.compareCells(row, left, row, right.column)
                    : table.compareWithToken(row, left, right, question);
            return bitOf(row, Tokens.holds(sign, order));
        }

        private static int bitOf(int row, boolean isTrue) {
            return 1 << (isTrue ? row : MAX_ROWS + row);
        }

        private void readAggregate() {
            Token token = tokens.get(place);
            kind = token.word;
            boolean ofColumn = kind == Word.SUM || kind == Word.LEAST || kind == Word.MOST;
            pass(token, ofColumn || kind == Word.COUNT);
            if (ofColumn) {
                readKind(Token.OPEN);
                column = readName(kind == Word.SUM);
                readKind(Token.CLOSE);
            }
        }

        private void readCondition(int depth) {
            readAll(depth);
            for (int turn = 0; turn < QUESTION_ROOM && takeWord(Word.OR); turn++) {
                readAll(depth);
                addStep(OR);
            }
        }

        private void readAll(int depth) {
            readPart(depth);
            for (int turn = 0; turn < QUESTION_ROOM && takeWord(Word.AND); turn++) {
                readPart(depth);
                addStep(AND);
            }
        }

        /** Where they would lie too deep, not and ( are read as the name that they can't be. */
        private void readPart(int depth) {
            if (depth < MAX_DEPTH && takeWord(Word.NOT)) {
                readPart(depth + 1);
                addStep(NOT);
            } else if (depth < MAX_DEPTH && tokens.get(place).kind == Token.OPEN) {
                readKind(Token.OPEN);
                readCondition(depth + 1);
                readKind(Token.CLOSE);
            } else {
                readComparison();
            }
        }

        private void readComparison() {
            int first = place;
            readName(false);
            if (takeWord(Word.IS)) {
                readWord(Word.NULL);
            } else {
                readKind(Token.COMPARISON);
                readSort(tokens.get(first).sort);
            }
            addStep(first);
        }

        private int readName(boolean ofNumbers) {
            Token token = tokens.get(place);
            pass(token, token.column != NONE && (!ofNumbers || token.sort == Token.sortOf(LONG)));
            return token.column;
        }

        private void readWord(Word word) {
            Token token = tokens.get(place);
            pass(token, token.word == word);
        }

        private void readKind(int kind) {
            Token token = tokens.get(place);
            pass(token, token.kind == kind);
        }

        private void readSort(int sort) {
            Token token = tokens.get(place);
            pass(token, token.sort == sort);
        }

        private boolean takeWord(Word word) {
            Token token = tokens.get(place);
            boolean taken = wrongAt == NONE && token.word == word;
            if (taken) {
                pass(token, true);
            }
            return taken;
        }

        /** Goes on behind a token that fits; the first one that does not is the fault. */
        private void pass(Token token, boolean fits) {
            if (wrongAt == NONE && fits) {
                place++;
            } else if (wrongAt == NONE) {
                wrongAt = token.from;
            }
        }

        private void addStep(int step) {
            if (stepCount < steps.length) {
                steps[stepCount] = step;
                stepCount++;
            }
        }
    }

    /** The answer of the latest question: rows, or lines each of which puts some rows together. */
    private static final class Answer {
        private boolean given;
        private Word kind = Word.ROWS;
        private int column = NONE;
        private int key = NONE;
        private int size;
        private int chosen;
        private final int[] rows = new int[MAX_ROWS];
        private final int[] counts = new int[MAX_ROWS];
        private final int[] keyRows = new int[MAX_ROWS];
        private final int[] bestRows = new int[MAX_ROWS];
        private final long[] values = new long[MAX_ROWS];
        private final boolean[] lacking = new boolean[MAX_ROWS];

        void take(Question asked, int chosenBits) {
            kind = asked.kind;
            column = asked.column;
            key = asked.key;
            chosen = 0;
            for (int row = 0; row < MAX_ROWS; row++) {
                if ((chosenBits & (1 << row)) != 0) {
                    rows[chosen] = row;
                    chosen++;
                }
            }
        }

        /** Each row goes before those that must come behind it, and so equal ones stay as they were. */
        void sortRows(Table table, boolean falling) {
            int sense = falling ? -1 : 1;
            for (int i = 1; key != NONE && i < chosen; i++) {
                int row = rows[i];
                int to = i;
                while (to > 0 && sense * table.compareRows(row, rows[to - 1], key) < 0) {
                    rows[to] = rows[to - 1];
                    to--;
                }
                rows[to] = row;
            }
        }

        /** False if a sum goes beyond the longs. By a name, a line is a stretch of the sorted rows. */
        boolean putTogether(Table table) {
            if (kind == Word.ROWS) {
                size = chosen;
                return true;
            }
            size = 0;
            if (key == NONE) {
                return addLine(0, chosen, table);
            }
            boolean fits = true;
            int start = 0;
            for (int i = 1; i <= chosen && fits; i++) {
                if (i == chosen || table.compareRows(rows[start], rows[i], key) != 0) {
                    fits = addLine(start, i, table);
                    start = i;
                }
            }
            return fits;
        }

        boolean has(int k) {
            return k >= 0 && k < size && k < MAX_ROWS;
        }

        boolean hasValues(Table table) {
            return kind != Word.ROWS && !(isBest() && table.typeAt(column) == TEXT);
        }

        void writeTo(Chars out, Table table) {
            if (kind == Word.ROWS) {
                table.writeNames(out);
                for (int k = 0; k < size; k++) {
                    table.writeRow(rows[k], out);
                }
                return;
            }
            if (key != NONE) {
                table.writeName(key, out);
                out.add(',');
            }
            out.addWord(kind.spelling);
            out.add(10);
            for (int k = 0; k < size; k++) {
                writeLine(k, out, table);
            }
        }

        private void writeLine(int k, Chars out, Table table) {
            if (key != NONE) {
                table.writeCell(keyRows[k], key, out);
                out.add(',');
            }
            if (!lacking[k] && isBest()) {
                table.writeCell(bestRows[k], column, out);
            } else if (!lacking[k]) {
                out.addNumber(values[k]);
            }
            out.add(10);
        }

        private boolean isBest() {
            return kind == Word.LEAST || kind == Word.MOST;
        }

        private boolean addLine(int start, int end, Table table) {
            if (size >= MAX_ROWS) {
                return true;
            }
            int k = size;
            size++;
            counts[k] = end - start;
            keyRows[k] = start < end ? rows[start] : NONE;
            if (kind == Word.COUNT) {
                values[k] = end - start;
                lacking[k] = false;
                return true;
            }
            if (kind == Word.SUM) {
                return sumUp(k, start, end, table);
            }
            findBest(k, start, end, table);
            return true;
        }

        private boolean sumUp(int k, int start, int end, Table table) {
            values[k] = 0;
            lacking[k] = true;
            for (int i = start; i < end; i++) {
                if (!table.lacks(rows[i], column)) {
                    long added = table.valueAt(rows[i], column);
                    long sum = values[k] + added;
                    if (added < 0 ? sum > values[k] : sum < values[k]) {
                        return false;
                    }
                    values[k] = sum;
                    lacking[k] = false;
                }
            }
            return true;
        }

        private void findBest(int k, int start, int end, Table table) {
            int best = NONE;
            for (int i = start; i < end; i++) {
                if (table.lacks(rows[i], column)) {
                    continue;
                }
                int order = best == NONE ? 0 : table.compareCells(rows[i], column, best, column);
                if (best == NONE || (kind == Word.LEAST ? order < 0 : order > 0)) {
                    best = rows[i];
                }
            }
            bestRows[k] = best;
            lacking[k] = best == NONE;
            values[k] = table.valueAt(best, column);
        }
    }
}
