/** Promise 6: type. */
public final class Promise06TypeTest {
    private static final Check CHECK = new Check();

    public static void main(String[] args) {
        numbers();
        dates();
        texts();
        CHECK.due("no table", () -> new AskedTable().type(0), "throws.IndexOutOfBoundsException");
        AskedTable x = Check.loaded("a,b\n1,x\n");
        CHECK.due("type(0)", x.type(0), 0);
        CHECK.due("type(1)", x.type(1), 3);
        for (int c : new int[] {-1, 2, 6, Integer.MIN_VALUE, Integer.MAX_VALUE}) {
            CHECK.due("type(" + c + ")", () -> x.type(c), "throws.IndexOutOfBoundsException");
        }
        CHECK.end();
    }

    private static void due(int want, String... cells) {
        String text = "a\n" + String.join("\n", cells) + "\n";
        CHECK.due("type of " + String.join("|", cells), Check.loaded(text).type(0), want);
    }

    private static void numbers() {
        CHECK.due("no rows", Check.loaded("a").type(0), 0);
        due(0, "");
        due(0, "", "");
        due(0, "0");
        due(0, "-1", "", "10");
        due(0, "2147483647", "-2147483648");
        due(1, "2147483648");
        due(1, "-2147483649");
        due(1, "1", "9223372036854775807", "-9223372036854775808");
        due(1, "9223372036854775799", "1000000000000000000");
        due(3, "9223372036854775808");
        due(3, "-9223372036854775809");
        due(3, "10000000000000000000");
        due(3, "99999999999999999999999999");
        due(3, "9300000000000000000");
        for (String none : new String[] {"-0", "00", "01", "-", "--1", "1-", "+1", " 1", "1 ", "1.0", "-01", "1e3"}) {
            due(3, none);
            due(3, "1", none);
        }
        due(3, "\"1\"");
        due(3, "1", "\"2\"");
    }

    private static void dates() {
        due(2, "0001-01-01", "9999-12-31");
        due(2, "2020-02-29", "2000-02-29", "", "2019-12-31");
        due(2, "2019-01-31", "2019-03-31", "2019-04-30", "2019-11-30");
        String[] none = {"0000-01-01", "1900-02-29", "2019-02-29", "2100-02-29", "2020-02-30", "2020-00-01",
            "2020-13-01", "2020-01-00", "2020-01-32", "2020-04-31", "2020-06-31", "2020-09-31", "2020-11-31",
            "2020-1-01", "2020-01-1", "20200101", "2020/01/01", "2020-01-01 ", "-020-01-01", "2020--1-01",
            "12020-01-01", "2020-01-0a", "2020-01-011"};
        for (String text : none) {
            if (!text.equals("20200101")) {
                due(3, text);
            }
            due(3, "2020-01-01", text);
        }
        due(3, "\"2020-01-01\"");
        due(3, "1", "2020-01-01");
        due(3, "9999999999", "2020-01-01");
    }

    private static void texts() {
        due(3, "x");
        due(3, "\"\"");
        due(3, "1", "\"\"");
        due(3, "\"\"", "");
        due(3, " ");
    }
}
