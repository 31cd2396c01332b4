/** Promise 13: aggregate. */
public final class Promise13AggregateTest {
    private static final String NO_VALUES = "throws.IllegalStateException";
    private static final String NO_LINE = "throws.IndexOutOfBoundsException";
    private static final String MISSING = "throws.NoSuchElementException";
    private static final Check CHECK = new Check();
    private static final AskedTable TABLE = Check.loaded("n,g,d,t\n"
            + "5,b,2020-01-01,x\n"
            + "-7,a,2019-12-31,\n"
            + ",b,,y\n"
            + "9,b,2020-01-02,\n"
            + ",c,,x\n"
            + "2,,2020-01-01,z\n");

    public static void main(String[] args) {
        values();
        states();
        edges();
        CHECK.end();
    }

    private static void due(String question, String want) {
        String answer = Check.ask(TABLE, question);
        StringBuilder told = new StringBuilder(answer.startsWith("throws.") ? answer : "");
        for (int k = 0; k < TABLE.lines(); k++) {
            int line = k;
            String value = Check.told(() -> TABLE.aggregate(line));
            told.append(k == 0 ? "" : " ").append(value.equals(MISSING) ? "-" : value);
        }
        CHECK.due(question, told.toString(), want);
    }

    private static void values() {
        due("count", "6");
        due("count where n=0", "0");
        due("count by g", "1 1 3 1");
        due("sum(n)", "9");
        due("sum(n) where n<0", "-7");
        due("sum(n) where n=0", "-");
        due("sum(n) where n is null", "-");
        due("sum(n) by g", "2 -7 14 -");
        due("least(n)", "-7");
        due("most(n)", "9");
        due("least(n) by g", "2 -7 5 -");
        due("most(n) by g", "2 -7 9 -");
        due("least(d)", "20191231");
        due("most(d)", "20200102");
        due("most(d) by g", "20200101 20191231 20200102 -");
        due("least(d) where g='c'", "-");
        due("sum(n) by n", "- -7 2 5 9");
        due("count by t where g='b'", "1 1 1");
    }

    private static void states() {
        AskedTable x = new AskedTable();
        CHECK.due("new", () -> x.aggregate(0), NO_VALUES);
        due("rows", NO_VALUES + (" " + NO_VALUES).repeat(5));
        CHECK.due("of rows, no such row", () -> TABLE.aggregate(99), NO_VALUES);
        due("least(t)", NO_VALUES);
        CHECK.due("of least of a text, no such line", () -> TABLE.aggregate(-1), NO_VALUES);
        due("most(t) where n=0", NO_VALUES);
        due("most(t) by n where n=0", "");
        CHECK.due("of most of a text, without lines", () -> TABLE.aggregate(0), NO_VALUES);
        due("count by t", "2 2 1 1");
        due("count by n where n=0", "");
        CHECK.due("without lines", () -> TABLE.aggregate(0), NO_LINE);
        due("sum(n)", "9");
        for (int k : new int[] {-1, 1, 16, Integer.MAX_VALUE, Integer.MIN_VALUE}) {
            CHECK.due("aggregate(" + k + ")", () -> TABLE.aggregate(k), NO_LINE);
        }
        due("sum(n) where n=0", "-");
        CHECK.due("no line before missing", () -> TABLE.aggregate(1), NO_LINE);
        Check.ask(TABLE, "none");
        CHECK.due("no answer any more", () -> TABLE.aggregate(0), NO_VALUES);
    }

    private static void edges() {
        AskedTable x = Check.loaded("a\n9223372036854775807\n-9223372036854775808\n\n");
        Check.ask(x, "least(a)");
        CHECK.due("the least long", x.aggregate(0), Long.MIN_VALUE);
        Check.ask(x, "most(a)");
        CHECK.due("the greatest long", x.aggregate(0), Long.MAX_VALUE);
        Check.ask(x, "sum(a)");
        CHECK.due("both", x.aggregate(0), -1);
        AskedTable empty = Check.loaded("a,b\n,\n,\n");
        Check.ask(empty, "sum(a)");
        CHECK.due("of a column without values", () -> empty.aggregate(0), MISSING);
        Check.ask(empty, "most(b) by a");
        CHECK.due("by a column without values", () -> empty.aggregate(0), MISSING);
        CHECK.due("one line", empty.lines(), 1);
    }
}
