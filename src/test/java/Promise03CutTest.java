/** Promise 3: cut. */
public final class Promise03CutTest {
    public static void main(String[] args) {
        Check check = new Check();
        for (boolean question : new boolean[] {false, true}) {
            AskedTable x = Check.set(new AskedTable(), question, "abcdef");
            check.due("cut(-1)", x.cut(question, -1), false);
            check.due("cut of the least int", x.cut(question, Integer.MIN_VALUE), false);
            check.due("cut(7)", x.cut(question, 7), false);
            check.due("cut of the greatest int", x.cut(question, Integer.MAX_VALUE), false);
            check.due("cut(6)", x.cut(question, 6), true);
            check.due("cut(2)", x.cut(question, 2), true);
            check.due("cut(3) after it", x.cut(question, 3), false);
            check.due("the other one", x.cut(!question, 1), false);
            check.due("cut(0)", x.cut(question, 0), true);
            check.due("cut(0) again", x.cut(question, 0), true);
        }
        AskedTable x = Check.set(new AskedTable(), false, "a,b\n1,2\n3,4\n");
        x.cut(false, 8);
        check.due("the first characters are kept", Check.told(x::load), 1);
        check.due("as they were", Check.written(x, false), "a,b\n1,2\n");
        x.cut(false, 0);
        check.due("the table stays", Check.written(x, false), "a,b\n1,2\n");
        Check.set(x, true, "rows order b desc");
        x.cut(true, 4);
        check.due("a cut question", Check.told(x::ask), 1);
        x.cut(true, 0);
        check.due("the answer stays", x.lines(), 1);
        check.end();
    }
}
