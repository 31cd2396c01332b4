/** Promise 8: value. */
public final class Promise08ValueTest {
    public static void main(String[] args) {
        Check check = new Check();
        check.due("no table", () -> new AskedTable().value(0, 0), "throws.IndexOutOfBoundsException");
        AskedTable x = Check.loaded("a,b,c,d\n0,-9223372036854775808,0001-01-01,x\n-2147483648,9223372036854775807,9999-12-31,\n"
                + "2147483647,5,2020-02-29,7\n,,,\n");
        check.due("zero", x.value(0, 0), 0);
        check.due("least int", x.value(1, 0), Integer.MIN_VALUE);
        check.due("greatest int", x.value(2, 0), Integer.MAX_VALUE);
        check.due("least long", x.value(0, 1), Long.MIN_VALUE);
        check.due("greatest long", x.value(1, 1), Long.MAX_VALUE);
        check.due("an int among longs", x.value(2, 1), 5);
        check.due("first date", x.value(0, 2), 10101);
        check.due("last date", x.value(1, 2), 99991231);
        check.due("leap day", x.value(2, 2), 20200229);
        for (int c = 0; c < 3; c++) {
            int column = c;
            check.due("missing in " + c, () -> x.value(3, column), "throws.NoSuchElementException");
        }
        check.due("a text", () -> x.value(0, 3), "throws.IllegalStateException");
        check.due("a number in a column of texts", () -> x.value(2, 3), "throws.IllegalStateException");
        check.due("missing in a column of texts", () -> x.value(3, 3), "throws.IllegalStateException");
        int[][] none = {{-1, 0}, {4, 0}, {0, 4}, {0, -1}, {4, 3}, {Integer.MAX_VALUE, Integer.MAX_VALUE}};
        for (int[] cell : none) {
            check.due("value(" + cell[0] + ", " + cell[1] + ")", () -> x.value(cell[0], cell[1]),
                    "throws.IndexOutOfBoundsException");
        }
        x.cut(false, 0);
        check.due("the text gone, the value stays", x.value(2, 2), 20200229);
        check.end();
    }
}
