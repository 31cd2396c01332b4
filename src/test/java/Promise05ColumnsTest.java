/** Promise 5: columns. */
public final class Promise05ColumnsTest {
    public static void main(String[] args) {
        Check check = new Check();
        AskedTable x = new AskedTable();
        check.due("no table", x.columns(), 0);
        check.due("a load that throws", Check.load(x, "a,a"), "throws.NoSuchElementException");
        check.due("still no table", x.columns(), 0);
        String text = "a";
        for (int n = 1; n <= 6; n++) {
            Check.load(x, text);
            check.due("columns of " + text, x.columns(), n);
            text = text + "," + (char) ('a' + n);
        }
        check.due("seven", Check.load(x, text), "throws.IllegalStateException");
        check.due("six stay", x.columns(), 6);
        Check.load(x, "\"a\",\"b\"\r\n,\r\n");
        check.due("fewer again", x.columns(), 2);
        check.end();
    }
}
