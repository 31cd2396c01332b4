/** Promise 11: lines. */
public final class Promise11LinesTest {
    public static void main(String[] args) {
        Check check = new Check();
        AskedTable x = new AskedTable();
        check.due("new", x.lines(), -1);
        Check.load(x, "a,b\n1,x\n2,x\n,y\n");
        check.due("a table alone", x.lines(), -1);
        String[][] wants = {{"rows", "3"}, {"rows where a=1", "1"}, {"rows where a=9", "0"}, {"count", "1"},
            {"count where a=9", "1"}, {"count by b", "2"}, {"count by a", "3"}, {"count by a where a=9", "0"}, {"least(b)", "1"}};
        for (String[] want : wants) {
            check.due("ask: " + want[0], Check.ask(x, want[0]), want[1]);
            check.due("lines: " + want[0], x.lines(), want[1]);
        }
        Check.ask(x, "rows x");
        check.due("after a question that is none", x.lines(), -1);
        Check.ask(x, "rows");
        Check.load(x, "\"");
        check.due("after a load that throws", x.lines(), 3);
        Check.load(x, "a");
        check.due("after a load", x.lines(), -1);
        Check.ask(x, "rows");
        check.due("of no rows", x.lines(), 0);
        Check.load(x, "a" + "\n1".repeat(16));
        Check.ask(x, "rows");
        check.due("of sixteen rows", x.lines(), 16);
        Check.load(x, "a\n1\n2\n3\n4\n5\n6\n7\n8\n9\n10\n11\n12\n13\n14\n15\n\n");
        Check.ask(x, "count by a");
        check.due("of sixteen values", x.lines(), 16);
        check.end();
    }
}
