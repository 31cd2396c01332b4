/** Promise 15: out. */
public final class Promise15OutTest {
    private static final String NONE = "throws.IndexOutOfBoundsException";

    public static void main(String[] args) {
        Check check = new Check();
        AskedTable x = new AskedTable();
        for (int i : new int[] {-1, 0, 1, Integer.MIN_VALUE, Integer.MAX_VALUE}) {
            check.due("of a new object, out(" + i + ")", () -> x.out(i), NONE);
        }
        Check.load(x, "a\n\"\"\"\r~ \"\n");
        check.due("load writes nothing", () -> x.out(0), NONE);
        int[] want = {'a', 10, '"', '"', '"', 13, '~', ' ', '"', 10};
        check.due("write", x.write(false), want.length);
        for (int i = 0; i < want.length; i++) {
            check.due("out(" + i + ")", x.out(i), want[i]);
        }
        for (int i : new int[] {-1, want.length, 240, 699, 700, 1024, Integer.MIN_VALUE, Integer.MAX_VALUE}) {
            check.due("out(" + i + ")", () -> x.out(i), NONE);
        }
        Check.ask(x, "count");
        check.due("ask writes nothing", x.out(0), (int) 'a');
        Check.load(x, "b");
        check.due("nor does load", x.out(0), (int) 'a');
        x.write(false);
        check.due("write does", x.out(0), (int) 'b');
        check.due("and it ends there", () -> x.out(2), NONE);
        check.end();
    }
}
