/** Promise 1: a new object has nothing. */
public final class Promise01NewObjectTest {
    public static void main(String[] args) {
        Check check = new Check();
        AskedTable x = new AskedTable();
        check.due("columns", x.columns(), 0);
        check.due("lines", x.lines(), -1);
        check.due("fault", x.fault(), -1);
        check.due("out(0)", () -> x.out(0), "throws.IndexOutOfBoundsException");
        check.due("write(false)", () -> x.write(false), "throws.IllegalStateException");
        check.due("write(true)", () -> x.write(true), "throws.IllegalStateException");
        check.due("ask", x::ask, "throws.IllegalStateException");
        check.due("load of an empty text", x::load, "throws.NoSuchElementException");
        check.due("the text is empty", x.cut(false, 1), false);
        check.due("the question is empty", x.cut(true, 1), false);
        check.due("NONE", AskedTable.NONE, -1);
        AskedTable other = Check.loaded("a\n1\n");
        check.due("another object's table is not seen", x.columns(), 0);
        check.due("the other one has it", other.columns(), 1);
        check.end();
    }
}
