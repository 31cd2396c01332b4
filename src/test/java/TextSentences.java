import java.time.YearMonth;
import java.util.ArrayList;
import java.util.List;

/** The terms of a text, of the table that it is, and of the types of its columns. */
final class TextSentences {
    private static final String MARKS = "throws.IllegalArgumentException";
    private static final String UNEVEN = "throws.IllegalStateException";
    private static final String NAMES = "throws.NoSuchElementException";
    private static final String ROWS = "throws.UnsupportedOperationException";
    private static final String NO_CELL = "throws.IndexOutOfBoundsException";
    private static final int TEXT_ROOM = 240;
    private static final int QUESTION_ROOM = 96;

    private final Document doc;

    private TextSentences(Document doc) {
        this.doc = doc;
    }

    static void test(Document doc) {
        TextSentences all = new TextSentences(doc);
        all.rooms();
        all.lettersAndDigits();
        all.records();
        all.fields();
        all.widths();
        all.names();
        all.rows();
        all.cells();
        all.wholeNumbers();
        all.dates();
        all.days();
        all.types();
        all.typesAmongMany();
        all.values();
        all.orders();
    }

    private static void load(Sentence s, String text, Object want) {
        s.due("load of " + text, Check.load(text), want);
    }

    private static void written(Sentence s, String text, String want) {
        s.due("written: " + text, Check.written(Check.loaded(text), false), want);
    }

    private static AskedTable full(boolean question, int room) {
        return Check.set(new AskedTable(), question, "a".repeat(room));
    }

    private void rooms() {
        Sentence s = doc.terms("THE TEXT has at most 240 characters 10, 13 or 32 .. 126,", 2, 4);
        Sentence q = doc.terms("THE QUESTION at most 96 characters 32 .. 126.", 2, 9);
        for (int c = 0; c < 256; c++) {
            boolean printed = c >= 32 && c <= 126;
            s.due("put of " + c, new AskedTable().put(false, c, 1), printed || c == 10 || c == 13);
            q.due("put of " + c, new AskedTable().put(true, c, 1), printed);
        }
        for (int n = 1; n <= 8; n++) {
            long w = Check.packed("a".repeat(n));
            s.due("put of " + n + " up to 240", full(false, TEXT_ROOM - n).put(false, w, n), true);
            s.due("put of " + n + " up to 241", full(false, TEXT_ROOM + 1 - n).put(false, w, n), false);
            q.due("put of " + n + " up to 96", full(true, QUESTION_ROOM - n).put(true, w, n), true);
            q.due("put of " + n + " up to 97", full(true, QUESTION_ROOM + 1 - n).put(true, w, n), false);
        }
        String x = "x".repeat(TEXT_ROOM - 2);
        written(s, "a\n" + x, "a\n" + x + "\n");
        load(s, "a\n" + "x".repeat(TEXT_ROOM - 3) + "\"", MARKS);
        load(s, "a\n" + "x".repeat(TEXT_ROOM - 3) + "\r", MARKS);
        String cell = "x".repeat(QUESTION_ROOM - "rows where a=''".length());
        AskedTable table = Check.loaded("a\n" + cell + "\n" + cell + "x\n");
        q.due("of 96 characters, the last one '", Check.asked(table, "rows where a='" + cell + "'"), "0");
        q.due("of 96 characters, the ' missing", Check.fault(table, "rows where a='" + cell + "x"), "13");
    }

    private void lettersAndDigits() {
        Sentence s = doc.terms("LETTERS are a .. z,", 4, 9, 10);
        Sentence d = doc.terms("DIGITS 0 .. 9.", 6, 9, 10);
        for (char c = 32; c <= 126; c++) {
            boolean letter = c >= 'a' && c <= 'z';
            boolean digit = c >= '0' && c <= '9';
            if (c != ',' && c != '"') {
                load(s, String.valueOf(c), letter ? "0" : NAMES);
                load(s, "x" + c, letter ? "0" : NAMES);
                load(s, c + "x", letter ? "0" : NAMES);
                d.due("type of 1" + c + "1", Check.loaded("a\n1" + c + "1\n").type(0), digit ? 0 : 3);
                d.due("type of " + c, Check.loaded("a\n" + c + "\n").type(0), digit ? 0 : 3);
            }
            AskedTable x = Check.loaded("a\n1\n");
            String behindName = c == ' ' ? "asked: 1" : letter ? "11" : "12";
            s.due("a name and " + c, Check.fault(x, "rows order a" + c), behindName);
            String behindNumber = c == ' ' ? "asked: 0" : digit ? "asked: 0" : c == '-' ? "13" : "14";
            d.due("a number and " + c, Check.fault(x, "rows where a=5" + c), behindNumber);
        }
    }

    private void records() {
        Sentence s = doc.terms("A TEXT IS A TABLE, if it is a row of RECORDS, each ended by 10, or by 13 and 10", 4);
        load(s, "a\n1\n2\n", 2);
        load(s, "a\r\n1\r\n2\r\n", 2);
        load(s, "a\n1\r\n2\n", 2);
        load(s, "a\n\r\n\n", 2);
        load(s, "a\n1\r2\n", MARKS);
        load(s, "a\n1\n\r", MARKS);
        load(s, "a\r\r\n", MARKS);
        load(s, "a\n\r1\n", MARKS);
        load(s, "\r\n", NAMES);
        written(s, "a\r\n1\r\n\r\n", "a\n1\n\n");
        s = doc.terms("(but the last one may end with the text, if it is not empty then);", 4);
        load(s, "", NAMES);
        load(s, "a", 0);
        load(s, "a\n", 0);
        load(s, "a\r\n", 0);
        load(s, "a\n\n", 1);
        load(s, "a\n1", 1);
        load(s, "a\n1\n", 1);
        load(s, "a\n1\n\n", 2);
        load(s, "a\n1\n ", 2);
        load(s, "a\n\"\"", 1);
        load(s, "a,b\n,", 1);
        load(s, "a,b\n1,", 1);
        load(s, "a,b\n1,2\n", 1);
        load(s, "a,b\n1,2\n\n", UNEVEN);
        s = doc.terms("a record is one or more FIELDS with commas between;", 4, 5);
        s.due("one field", Check.loaded("a").columns(), 1);
        s.due("two fields", Check.loaded("a,b").columns(), 2);
        written(s, "a,b\n,1\n1,\n,\n", "a,b\n,1\n1,\n,\n");
        load(s, "a,", NAMES);
        load(s, ",a", NAMES);
        load(s, "a,b\n1,2,\n", UNEVEN);
        load(s, "a,b\n,1,2\n", UNEVEN);
        load(s, "a\n,\n", UNEVEN);
    }

    private void fields() {
        Sentence s = doc.terms("a field is QUOTED: a quotation mark (\"), any characters, but each quotation mark twice, a quotation mark;", 4);
        for (int c = 10; c <= 126; c++) {
            if (c == 10 || c == 13 || c >= 32 && c != '"') {
                written(s, "a\n\"," + (char) c + "\"\n", "a\n\"," + (char) c + "\"\n");
            }
        }
        written(s, "a\n\"\"\n", "a\n\"\"\n");
        written(s, "a\n\"\"\"\"\n", "a\n\"\"\"\"\n");
        written(s, "a\n\"x\"\"\"\n\"\"\"x\"\n", "a\n\"x\"\"\"\n\"\"\"x\"\n");
        load(s, "a\n\"\"\"\n", MARKS);
        load(s, "a\n\"x\"y\"\n", MARKS);
        load(s, "a\n\"\"\"\"\"\n", MARKS);
        load(s, "a\n\"x\n", MARKS);
        load(s, "a\n\"", MARKS);
        s = doc.terms("or PLAIN: any characters (none, too) but commas, quotation marks, 10 and 13.", 4);
        for (char c = 32; c <= 126; c++) {
            if (c != ',' && c != '"') {
                written(s, "a\nx" + c + "\n" + c + "x\n", "a\nx" + c + "\n" + c + "x\n");
            }
        }
        s.due("none", Check.loaded("a\n\n").isMissing(0, 0), true);
        load(s, "a\nx,\n", UNEVEN);
        load(s, "a\nx\"\n", MARKS);
        load(s, "a\nx\n\n", 2);
        load(s, "a\nx\r\n\r\n", 2);
        load(s, "a\nx\r\n", 1);
        load(s, "a\nx\rx\n", MARKS);
    }

    private void widths() {
        Sentence s = doc.terms("All records have as many fields, at most 6;", 4, 5);
        for (int wide = 1; wide <= 8; wide++) {
            String header = "a,b,c,d,e,f,g,h".substring(0, 2 * wide - 1);
            load(s, header, wide <= 6 ? "0" : UNEVEN);
            for (int other = 1; other <= 8; other++) {
                boolean even = other == wide && wide <= 6;
                String row = ",".repeat(other - 1);
                load(s, header + "\n" + row + "\n", even ? "1" : UNEVEN);
                String good = (",".repeat(wide - 1) + "\n").repeat(15);
                load(s, header + "\n" + good + row + "\n", even ? "16" : UNEVEN);
            }
        }
    }

    private void names() {
        Sentence s = doc.terms("the first one is the HEADER: its fields (plain or quoted) are the columns' NAMES,", 4, 9, 14);
        AskedTable x = Check.loaded("\"a\",b,\"c\"\n3,2,1\n");
        s.due("written", Check.written(x, false), "a,b,c\n3,2,1\n");
        s.due("asked by their names", Check.asked(x, "rows where a=3 and b=2 and c=1"), "0");
        s.due("a name that is no column's", Check.fault(x, "rows where d=3"), "11");
        s = doc.terms("each one to six letters,", 4);
        for (int n = 0; n <= 12; n++) {
            String name = "abcdefghijkl".substring(0, n);
            load(s, name + "\n", n >= 1 && n <= 6 ? "0" : NAMES);
            load(s, "\"" + name + "\"\n", n >= 1 && n <= 6 ? "0" : NAMES);
            load(s, "a,b,c,d,e," + "x".repeat(n), n >= 1 && n <= 6 ? "0" : NAMES);
        }
        s = doc.terms("no one twice,", 4);
        for (int i = 0; i < 6; i++) {
            for (int j = 0; j < 6; j++) {
                String[] header = {"a", "b", "c", "d", "e", "f"};
                header[j] = header[i];
                load(s, String.join(",", header), i == j ? "0" : NAMES);
                header[j] = "\"" + header[i] + "\"";
                load(s, String.join(",", header), i == j ? "0" : NAMES);
            }
        }
        load(s, "a,ab,aa,b,ba,bb", 0);
        s = doc.terms("none of the words by, where, and, or, not, is, null, order, desc.", 4);
        for (String word : new String[] {"by", "where", "and", "or", "not", "is", "null", "order", "desc"}) {
            load(s, word, NAMES);
            load(s, "\"" + word + "\"\n", NAMES);
            load(s, "a,b,c,d,e," + word + "\n1,2,3,4,5,6\n", NAMES);
            load(s, word + "s", 0);
            load(s, "x" + word, 0);
            load(s, word.substring(1) + "\n", 0);
        }
    }

    private void rows() {
        Sentence s = doc.terms("The others are ROWS, at most 16, numbered from 0.", 4, 8, 12);
        for (int n = 0; n <= 20; n++) {
            StringBuilder text = new StringBuilder("a");
            for (int r = 0; r < n; r++) {
                text.append("\n").append(100 + r);
            }
            AskedTable x = Check.set(new AskedTable(), false, text.toString());
            s.due(n + " rows", x::load, n <= 16 ? n : ROWS);
            for (int r = -1; r <= 16; r++) {
                int row = r;
                s.due("row " + r + " of " + n, () -> x.value(row, 0), n <= 16 && r >= 0 && r < n ? 100 + r : NO_CELL);
            }
        }
        load(s, "a" + "\n".repeat(17), 16);
        load(s, "a" + "\n".repeat(18), ROWS);
        AskedTable x = Check.loaded("a" + "\n1".repeat(16));
        s.due("numbers", Check.asked(x, "rows"), "0 1 2 3 4 5 6 7 8 9 10 11 12 13 14 15");
    }

    private void cells() {
        Sentence s = doc.terms("A row's field is a CELL: a plain one without characters is MISSING;", 7);
        AskedTable x = Check.loaded("a,b,c\n,\"\", \n\"\",,\n,,\"\"");
        s.due("plain without characters", x.isMissing(0, 0), true);
        s.due("quoted without characters", x.isMissing(0, 1), false);
        s.due("a space", x.isMissing(0, 2), false);
        s.due("quoted, the first of a record", x.isMissing(1, 0), false);
        s.due("between commas", x.isMissing(1, 1), true);
        s.due("the last of a record", x.isMissing(1, 2), true);
        s.due("quoted, the last of the text", x.isMissing(2, 2), false);
        s.due("alone in the last record", Check.loaded("a\n1\n\n").isMissing(1, 0), true);
        s.due("alone, with 13", Check.loaded("a\n\r\n1").isMissing(0, 0), true);
        s = doc.terms("any other has the characters as its text (of a quoted one those between the marks, each two marks one).", 9);
        String[][] texts = {{"x y", "x y"}, {"\"x y\"", "x y"}, {"\"\"", ""}, {"\"\"\"\"", "\""}, {"\"\"\"\"\"\"", "\"\""},
            {"\" \"", " "}, {"\",\"", ","}, {"\"a\"\"b\"", "a\"b"}, {"\"\"\"a\"", "\"a"}, {"\"a\"\"\"", "a\""}, {" a ", " a "}};
        for (String[] text : texts) {
            AskedTable one = Check.loaded("a\n" + text[0] + "\n");
            s.due("the text of " + text[0], Check.asked(one, "rows where a='" + text[1] + "'"), "0");
            s.due("no other than that of " + text[0], Check.asked(one, "rows where a<>'" + text[1] + "'"), "");
        }
    }

    /** A number alone, among texts, and in a question. */
    private static void whole(Sentence s, String number, boolean is) {
        s.due("type with " + number, Check.loaded("a\n5\n" + number + "\n").type(0) < 2, is);
        s.due("value of " + number, Check.told(() -> Check.loaded("a\n5\n" + number + "\n").value(1, 0)), is ? number : UNEVEN);
        String text = is ? "\"" + number + "\"" : number;
        s.due("written among texts: " + number, Check.written(Check.loaded("a\nx\n" + number + "\n"), false), "a\nx\n" + text + "\n");
        AskedTable x = Check.loaded("a\n" + (is ? number : "5") + "\n");
        s.due("asked for " + number, Check.fault(x, "rows where a=" + number), is ? "asked: 1" : "13");
    }

    private void wholeNumbers() {
        Sentence s = doc.terms("A text is a WHOLE NUMBER if it is 0,", 6, 8, 9, 14);
        whole(s, "0", true);
        whole(s, "-0", false);
        whole(s, "00", false);
        s = doc.terms("or digits of which the first is not 0,", 6, 8, 9, 14);
        for (String number : new String[] {"1", "9", "10", "90", "1000000000000000000", "999999999999999999"}) {
            whole(s, number, true);
        }
        for (String number : new String[] {"01", "000", "00000000000000000001", "09223372036854775807"}) {
            whole(s, number, false);
        }
        s = doc.terms("perhaps with - before these,", 6, 8, 9, 14);
        for (String number : new String[] {"-1", "-9", "-10", "-1000000000000000000"}) {
            whole(s, number, true);
        }
        for (String number : new String[] {"-", "--", "--1", "-01", "1-", "1-1", "-1-", "-00"}) {
            whole(s, number, false);
        }
        s = doc.terms("from -2^63 to 2^63 - 1;", 6, 8, 9, 14);
        for (String number : new String[] {"9223372036854775807", "9223372036854775806", "9199999999999999999", "-9223372036854775808",
            "-9223372036854775807", "-8999999999999999999"}) {
            whole(s, number, true);
        }
        for (String number : new String[] {"9223372036854775808", "9223372036854775810", "9223372036854775900", "9300000000000000000",
            "10000000000000000000", "18446744073709551616", "18446744073709551617", "-9223372036854775809", "-9223372036854775810",
            "-9300000000000000000", "-10000000000000000000", "-18446744073709551616", "9".repeat(40), "-" + "1".repeat(60)}) {
            whole(s, number, false);
        }
    }

    /** A date alone, among texts, and in a question. */
    private static void date(Sentence s, String date, boolean is) {
        AskedTable x = Check.loaded("a\n2000-01-01\n" + date + "\n");
        s.due("type with " + date, x.type(0), is ? 2 : 3);
        String text = is ? "\"" + date + "\"" : date;
        s.due("written among texts: " + date, Check.written(Check.loaded("a\nx\n" + date + "\n"), false), "a\nx\n" + text + "\n");
        AskedTable y = Check.loaded("a\n" + (is ? date : "2000-01-01") + "\n");
        s.due("asked for " + date, Check.fault(y, "rows where a=" + date), is ? "asked: 1" : "13");
    }

    private void dates() {
        Sentence s = doc.terms("a DATE if it is yyyy-mm-dd, digits,", 6, 9, 14);
        date(s, "2020-10-20", true);
        for (String none : new String[] {"2020-1-20", "2020-10-2", "220-10-20", "02020-10-20", "2020-010-20", "2020-10-020", "2020-10-20-",
            "-2020-10-20", "2020--1-20", "2020-10--1", "-020-10-20", "2020-10-201", "2020-1020", "202010-20-", "20-10-2020", "2020-10",
            "----------"}) {
            date(s, none, false);
        }
        for (int i = 0; i < 10; i++) {
            for (char c : new char[] {'/', ':', 'a', ' ', '.'}) {
                String spoiled = "2020-10-20".substring(0, i) + c + "2020-10-20".substring(i + 1);
                s.due("type with " + spoiled, Check.loaded("a\n" + spoiled + "\n").type(0), 3);
            }
        }
        s = doc.terms("a year 0001 .. 9999,", 6, 9, 14);
        date(s, "0000-01-01", false);
        date(s, "0000-12-31", false);
        date(s, "0000-02-29", false);
        date(s, "0001-01-01", true);
        date(s, "0009-01-01", true);
        date(s, "9999-12-31", true);
        date(s, "10000-01-01", false);
    }

    private void days() {
        Sentence s = doc.terms("and a month and day that there are"
                + " (years divisible by 4 are leap years, those divisible by 100 only if by 400).", 6, 9, 14);
        int[] years = {1, 4, 96, 100, 200, 300, 400, 404, 1582, 1600, 1700, 1800, 1900, 1996, 1999, 2000, 2001, 2002, 2004, 2100, 2400,
            9600, 9900, 9996, 9999};
        for (int year : years) {
            for (int month = 0; month <= 13; month++) {
                boolean isMonth = month >= 1 && month <= 12;
                int last = isMonth ? YearMonth.of(year, month).lengthOfMonth() : 0;
                for (int day : new int[] {0, 1, 28, 29, 30, 31, 32, 99}) {
                    date(s, String.format("%04d-%02d-%02d", year, month, day), day >= 1 && day <= last);
                }
            }
            date(s, String.format("%04d-99-01", year), false);
        }
    }

    private static void type(Sentence s, int want, String... cells) {
        s.due("type of " + String.join("|", cells), Check.loaded("a\n" + String.join("\n", cells) + "\n").type(0), want);
    }

    private void types() {
        Sentence s = doc.terms("A column's TYPE is the first of these that all its cells that are not missing fit:", 6);
        s.due("no rows", Check.loaded("a\n").type(0), 0);
        type(s, 0, "");
        type(s, 0, "", "", "");
        type(s, 1, "", "2147483648", "");
        type(s, 2, "", "2020-01-01", "");
        type(s, 3, "", "\"\"", "");
        type(s, 3, "1", "2020-01-01");
        type(s, 3, "2147483648", "2020-01-01");
        s = doc.terms("0 INT: whole numbers from -2^31 to 2^31 - 1, plain;", 6);
        type(s, 0, "0");
        type(s, 0, "2147483647");
        type(s, 0, "-2147483648");
        type(s, 1, "2147483648");
        type(s, 1, "-2147483649");
        type(s, 1, "4294967296");
        type(s, 3, "\"2147483647\"");
        type(s, 3, "1", "\"1\"");
        s = doc.terms("1 LONG: whole numbers, plain;", 6);
        type(s, 1, "9223372036854775807");
        type(s, 1, "-9223372036854775808");
        type(s, 1, "1", "9223372036854775807");
        type(s, 3, "9223372036854775808");
        type(s, 3, "-9223372036854775809");
        type(s, 3, "\"9223372036854775807\"");
        type(s, 3, "9223372036854775807", "\"1\"");
        s = doc.terms("2 DATE: dates, plain;", 6);
        type(s, 2, "0001-01-01", "9999-12-31");
        type(s, 3, "2019-02-29");
        type(s, 3, "2020-02-29", "2019-02-29");
        type(s, 3, "\"2020-02-29\"");
        type(s, 3, "2020-02-29", "\"2020-02-29\"");
        s = doc.terms("3 TEXT.", 6);
        type(s, 3, "x");
        type(s, 3, " ");
        type(s, 3, " 1");
        type(s, 3, "1 ");
        type(s, 3, "\"\"");
    }

    /** One cell of another type at each place of a full column; the columns beside it keep theirs. */
    private void typesAmongMany() {
        Sentence s = doc.terms("all its cells that are not missing fit:", 6);
        String[] ofType = {"1", "2147483648", "2020-01-01", "x"};
        for (int at = 0; at < 16; at++) {
            for (int type = 0; type < 4; type++) {
                for (int other = 0; other < 4; other++) {
                    List<String> cells = new ArrayList<>();
                    for (int r = 0; r < 16; r++) {
                        cells.add("5," + (r == at ? ofType[other] : r % 3 == 1 ? "" : ofType[type]));
                    }
                    boolean numbers = type < 2 && other < 2;
                    int want = type == other ? type : numbers ? 1 : 3;
                    AskedTable x = Check.loaded("a,b\n" + String.join("\n", cells));
                    s.due(other + " among " + type + " at " + at, x.type(1), want);
                    s.due("the column beside", x.type(0), 0);
                }
            }
        }
    }

    private void values() {
        Sentence s = doc.terms("The VALUE of a cell of the first three types is a long:"
                + " the number, or for a date 10000 * year + 100 * month + day.", 8, 13);
        String[][] values = {{"0", "0"}, {"-1", "-1"}, {"2147483647", "2147483647"}, {"-2147483648", "-2147483648"}, {"2147483648", "2147483648"},
            {"9223372036854775807", "9223372036854775807"}, {"-9223372036854775808", "-9223372036854775808"}, {"0001-01-01", "10101"},
            {"9999-12-31", "99991231"}, {"2020-02-29", "20200229"}, {"0100-10-10", "1001010"}};
        for (String[] value : values) {
            AskedTable x = Check.loaded("a\n\n" + value[0] + "\n");
            s.due("value of " + value[0], x.value(1, 0), value[1]);
            Check.ask(x, "least(a)");
            s.due("least of " + value[0], x.aggregate(0), value[1]);
        }
    }

    private void orders() {
        Sentence s = doc.terms("VALUES of one type are in order as longs,", 9);
        inOrder(s, "", "-2147483648", "-2147483647", "-10", "-9", "-1", "0", "1", "9", "10", "2147483646", "2147483647");
        inOrder(s, "", "-9223372036854775808", "-9223372036854775807", "-1", "0", "1", "9223372036854775806", "9223372036854775807");
        inOrder(s, "", "0001-01-01", "0001-01-02", "0001-02-01", "0999-12-31", "1000-01-01", "9999-12-30", "9999-12-31");
        s = doc.terms("texts character by character (what ends first before what goes on).", 9);
        inOrder(s, "'", "\"\"", " ", "  ", " a", "-", "-1", "0", "00", "10", "9", "A", "Z", "Za", "a", "a ");
        inOrder(s, "'", "a", "aa", "aaa", "ab", "aba", "abb", "b", "ba", "z", "{", "~", "~~");
    }

    /** Each cell against each by order, by all signs as literal and as column. */
    private static void inOrder(Sentence s, String mark, String... cells) {
        for (int i = 0; i < cells.length; i++) {
            for (int j = 0; j < cells.length; j++) {
                String one = cells[i];
                String other = cells[j].equals("\"\"") ? "" : cells[j];
                String kind = mark.isEmpty() ? "" : "x,x\n";
                int first = mark.isEmpty() ? 0 : 1;
                AskedTable x = Check.loaded("a,b\n" + kind + one + "," + cells[j] + "\n");
                for (String sign : new String[] {"=", "<>", "<", "<=", ">", ">="}) {
                    boolean holds = i < j ? sign.startsWith("<") : i > j ? sign.contains(">") : sign.contains("=");
                    String want = holds ? String.valueOf(first) : "";
                    String only = mark.isEmpty() ? "" : "b<>'x' and ";
                    s.due(one + sign + other, Check.asked(x, "rows where " + only + "a" + sign + mark + other + mark), want);
                    s.due(one + sign + other + " of columns", Check.asked(x, "rows where " + only + "a" + sign + "b"), want);
                }
                AskedTable y = Check.loaded("a,b\n" + one + ",1\n" + cells[j] + ",1\n" + (mark.isEmpty() ? "" : "x,0\n"));
                s.due(one + " and " + other + " in order", Check.asked(y, "rows where b=1 order a"), i <= j ? "0 1" : "1 0");
            }
        }
    }
}
