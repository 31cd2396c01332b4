/** Promise 4: load. */
public final class Promise04LoadTest {
    private static final String MARKS = "throws.IllegalArgumentException";
    private static final String UNEVEN = "throws.IllegalStateException";
    private static final String NAMES = "throws.NoSuchElementException";
    private static final String ROWS = "throws.UnsupportedOperationException";
    private static final Check CHECK = new Check();

    public static void main(String[] args) {
        good();
        marks();
        uneven();
        names();
        rows();
        order();
        staysWhenItThrows();
        CHECK.end();
    }

    private static void due(String text, Object want) {
        CHECK.due("load of " + text.replace("\r", "\\r").replace("\n", "\\n"), Check.load(text), want);
    }

    private static void good() {
        due("a", 0);
        due("a\n", 0);
        due("a\r\n", 0);
        due("\"a\"", 0);
        due("\"a\",b\r\n", 0);
        due("a\n\n", 1);
        due("a\n\n\n", 2);
        due("a\r\n\r\n\n", 2);
        due("a\n\"\"", 1);
        due("a\n\"\"\n", 1);
        due("a,b\n,", 1);
        due("a,b\n,\n", 1);
        due("a\n \n", 1);
        due("a\n\"x\r\ny\"\n", 1);
        due("a\n\"x\ry\"", 1);
        due("a\n\"\"\"\"\r\n", 1);
        due("a,b,c,d,e,f\n1,2,3,4,5,6", 1);
        due("rows,count,sum,least,most,abcdef", 0);
        due("a" + "\n1".repeat(16), 16);
        due("a" + "\n".repeat(17), 16);
        AskedTable x = Check.loaded("a,b\n\"x\"\"y\",\"\"\r\n\",\",\"\r\n\"\n");
        CHECK.due("quoted cells", Check.written(x, false), "a,b\n\"x\"\"y\",\"\"\n\",\",\"\r\n\"\n");
    }

    private static void marks() {
        due("a\n\"x", MARKS);
        due("\"", MARKS);
        due("a\n\"", MARKS);
        due("a\n\"x\"\"", MARKS);
        due("a\n\"\"\"", MARKS);
        due("a\"", MARKS);
        due("a\nx\"y\"\n", MARKS);
        due("a\n \"y\"\n", MARKS);
        due("a\n\"y\" \n", MARKS);
        due("a\n\"y\"z\n", MARKS);
        due("a\n\"y\"\r", MARKS);
        due("a\n\"y\"\rz", MARKS);
        due("a\r", MARKS);
        due("a\rb", MARKS);
        due("a\r\r\n", MARKS);
        due("\r", MARKS);
        due("a\n1\r", MARKS);
    }

    private static void uneven() {
        due("a,b\n1", UNEVEN);
        due("a\n1,2\n", UNEVEN);
        due("a,b\n\n", UNEVEN);
        due("a,b\n1,2\n1,2,3\n", UNEVEN);
        due("a,b,c,d,e,f,g", UNEVEN);
        due(",,,,,,", UNEVEN);
        due(",".repeat(240), UNEVEN);
        due("a\n,,,,,,\n", UNEVEN);
    }

    private static void names() {
        due("", NAMES);
        due("\n", NAMES);
        due("\r\n", NAMES);
        due("\"\"", NAMES);
        due("a,", NAMES);
        due(",a\n", NAMES);
        due("a,a", NAMES);
        due("a,b,\"a\"", NAMES);
        due("abcdefg", NAMES);
        due("A", NAMES);
        due("a1", NAMES);
        due(" a", NAMES);
        due("a ", NAMES);
        due("a-b", NAMES);
        due("\"a\"\"\"", NAMES);
        due("\"a\n\"", NAMES);
        for (String word : new String[] {"by", "where", "and", "or", "not", "is", "null", "order", "desc"}) {
            due(word, NAMES);
            due("a,\"" + word + "\"\n1,2\n", NAMES);
            due(word.substring(0, word.length() - 1), 0);
            due(word + "x", 0);
        }
    }

    private static void rows() {
        due("a" + "\n1".repeat(17), ROWS);
        due("a" + "\n".repeat(18), ROWS);
        due("a" + "\n".repeat(239), ROWS);
        due("a,b,c,d,e,f" + "\n,,,,,".repeat(17), ROWS);
        due("a,b,c,d,e,f" + "\n,,,,,".repeat(16), 16);
    }

    private static void order() {
        due("A,A\n1\n\"", MARKS);
        due("A,A\n1\n", UNEVEN);
        due("A,B,C,D,E,F,G\n", UNEVEN);
        due("by" + "\n1".repeat(17), NAMES);
        due("a" + "\n1".repeat(17) + "\nx\"", MARKS);
        due("a" + "\n1".repeat(17) + ",2", UNEVEN);
    }

    private static void staysWhenItThrows() {
        AskedTable x = Check.loaded("a\n5\n");
        CHECK.due("asked", Check.ask(x, "rows"), 1);
        String[] wrong = {"\"", "a\n1,2", "A", "", "b" + "\n".repeat(18)};
        for (String text : wrong) {
            CHECK.due("it throws", Check.load(x, text).startsWith("throws."), true);
            CHECK.due("the table stays", Check.written(x, false), "a\n5\n");
            CHECK.due("the answer stays", Check.written(x, true), "a\n5\n");
            CHECK.due("the lines stay", x.lines(), 1);
        }
        CHECK.due("too many fields", Check.load(x, ",,,,,,"), UNEVEN);
        CHECK.due("nothing is left of them", Check.load(x, ""), NAMES);
        CHECK.due("a new table", Check.load(x, "b,c\n"), 0);
        CHECK.due("the answer goes", x.lines(), -1);
        CHECK.due("OUT stays", Check.out(x, 4), "a\n5\n");
        CHECK.due("the new table", Check.written(x, false), "b,c\n");
    }
}
