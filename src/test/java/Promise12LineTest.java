/** Promise 12: line. */
public final class Promise12LineTest {
    private static final String NO_ANSWER = "throws.IllegalStateException";
    private static final String NO_LINE = "throws.IndexOutOfBoundsException";

    public static void main(String[] args) {
        Check check = new Check();
        AskedTable x = new AskedTable();
        check.due("new", () -> x.line(0), NO_ANSWER);
        Check.load(x, "a,b\n3,x\n1,y\n,x\n2,\n1,x\n");
        check.due("no answer", () -> x.line(-1), NO_ANSWER);
        check.due("rows in order", Check.asked(x, "rows order a"), "2 1 4 3 0");
        for (int k : new int[] {-1, 5, 16, Integer.MAX_VALUE, Integer.MIN_VALUE}) {
            check.due("line(" + k + ")", () -> x.line(k), NO_LINE);
        }
        check.due("rows chosen", Check.asked(x, "rows where b='x'"), "0 2 4");
        check.due("line(3)", () -> x.line(3), NO_LINE);
        check.due("no rows", Check.asked(x, "rows where a=9"), "");
        check.due("line(0)", () -> x.line(0), NO_LINE);
        check.due("all of an aggregate", Check.asked(x, "sum(a)"), "5");
        check.due("line(1)", () -> x.line(1), NO_LINE);
        check.due("none of an aggregate", Check.asked(x, "sum(a) where a=9"), "0");
        check.due("of each line, missing cells too", Check.asked(x, "sum(a) by b"), "1 3 1");
        check.due("of least", Check.asked(x, "least(a) by b where not a is null"), "1 2 1");
        check.due("by a", Check.asked(x, "count by a"), "1 2 1 1");
        Check.ask(x, "oops");
        check.due("no answer any more", () -> x.line(0), NO_ANSWER);
        check.end();
    }
}
