/** Promise 10: fault. */
public final class Promise10FaultTest {
    private static final Check CHECK = new Check();
    private static final AskedTable TABLE = Check.loaded("n,d,t,rows\n1,2020-01-01,x,5\n,,,\n");

    public static void main(String[] args) {
        starts();
        tails();
        conditions();
        comparisons();
        tokens();
        depths();
        sums();
        whenItChanges();
        CHECK.end();
    }

    /** The fault is where the ^ of the second text stands. */
    private static void due(String question, String mark) {
        CHECK.due("fault of " + question, Check.fault(TABLE, question), mark.indexOf('^'));
    }

    private static void starts() {
        due("", "^");
        due("   ", "   ^");
        due("n", "^");
        due("  where", "  ^");
        due("rowsx", "^");
        due("'rows'", "^");
        due("(rows)", "^");
        due("5", "^");
        due("count count", "      ^");
    }

    private static void tails() {
        due("rows by n", "     ^");
        due("rows (", "     ^");
        due("rows order", "          ^");
        due("rows order ", "           ^");
        due("rows order x", "           ^");
        due("rows order by", "           ^");
        due("rows order n n", "             ^");
        due("rows order n desc x", "                  ^");
        due("rows order n where n=1", "             ^");
        due("count order n", "      ^");
        due("count by", "        ^");
        due("count by by", "         ^");
        due("count by x where n=1", "         ^");
        due("count by n order n", "           ^");
        due("count by n,d", "          ^");
        due("count where n=1 by n", "                ^");
        due("least", "     ^");
        due("least n", "      ^");
        due("least(", "      ^");
        due("least(x)", "      ^");
        due("least()", "      ^");
        due("least(n", "       ^");
        due("least(n by n", "        ^");
        due("least(n))", "        ^");
    }

    private static void conditions() {
        due("rows where", "          ^");
        due("rows where ", "           ^");
        due("rows where or", "           ^");
        due("rows where not", "              ^");
        due("rows where ()", "            ^");
        due("rows where n=1 and", "                  ^");
        due("rows where n=1 and or", "                   ^");
        due("rows where n=1 n=1", "               ^");
        due("rows where n=1 not n=1", "               ^");
        due("rows where n=1)", "              ^");
        due("rows where (n=1", "               ^");
        due("rows where (n=1 order n", "                ^");
        due("rows where (n=1 or", "                  ^");
        due("count where n=1 order n", "                ^");
        due("rows where (n=1) (n=1)", "                 ^");
        due("rows where order n", "           ^");
    }

    private static void comparisons() {
        due("rows where x=1", "           ^");
        due("rows where 1=n", "           ^");
        due("rows where 'x'=t", "           ^");
        due("rows where n", "            ^");
        due("rows where n 1", "             ^");
        due("rows where n is", "               ^");
        due("rows where n is not null", "                ^");
        due("rows where n is nul", "                ^");
        due("rows where n=", "             ^");
        due("rows where n= x", "              ^");
        due("rows where n= 'x'", "              ^");
        due("rows where n= 2020-01-01", "              ^");
        due("rows where n= d", "              ^");
        due("rows where n= t", "              ^");
        due("rows where n= null", "              ^");
        due("rows where d= 1", "              ^");
        due("rows where d= 'x'", "              ^");
        due("rows where d= n", "              ^");
        due("rows where t= 1", "              ^");
        due("rows where t= 2020-01-01", "              ^");
        due("rows where t= d", "              ^");
        due("rows where t= n x", "              ^");
        due("rows where rows= rows rows", "                      ^");
    }

    private static void tokens() {
        due("rows where n==1", "             ^");
        due("rows where n=<1", "             ^");
        due("rows where n><1", "             ^");
        due("rows where n<>=1", "              ^");
        due("rows where n<=>1", "              ^");
        due("rows where n< >1", "              ^");
        due("rows where n< =1", "              ^");
        due("rows where n=01", "             ^");
        due("rows where n=-0", "             ^");
        due("rows where n=-", "             ^");
        due("rows where n=1-2", "             ^");
        due("rows where n=9223372036854775808", "             ^");
        due("rows where n=-9223372036854775809", "             ^");
        due("rows where d=2019-02-29", "             ^");
        due("rows where n=1 2", "               ^");
        due("rows where n=1x", "              ^");
        due("rows where t='x", "             ^");
        due("rows where t='", "             ^");
        due("rows where t='x''y'", "                ^");
        due("rows where t='x' 'y", "                 ^");
        due("rows where t=\"x\"", "             ^");
        due("rows where n=1;", "              ^");
        due("rows where N=1", "           ^");
        due("rows where nN=1", "            ^");
        due("rows where n.n", "            ^");
        due("rows 'x", "     ^");
        due("rows where n=1 01", "               ^");
        due("rows where abcdefgh=1", "           ^");
    }

    private static void depths() {
        due("rows where not not not not not not not not not n=1", "                                           ^");
        due("rows where (((((((((n=1)))))))))", "                   ^");
        due("rows where not (not (not (not (not n=1", "                               ^");
        due("rows where not (not (not (not ((n=1", "                               ^");
        due("rows where not (not (not (not (n=1", "                                  ^");
        due("rows where ((((((((n=1)))))))) and not((((((((n=1))))))))", "                                             ^");
        CHECK.due("side by side", Check.asked(TABLE, "rows where ((((((((n=1)))))))) and ((((((((n=1))))))))"), "0");
        CHECK.due("the sum's ( does not count", Check.asked(TABLE, "sum(n) where ((((((((n=1))))))))"), "1");
        CHECK.due("one not behind the other", Check.asked(TABLE, "rows where not not not not n=2 or not not not not not not n=1"), "0");
    }

    private static void sums() {
        due("sum", "   ^");
        due("sum n", "    ^");
        due("sum(", "    ^");
        due("sum(d)", "    ^");
        due("sum(t) x", "    ^");
        due("sum(x)", "    ^");
        due("sum(n", "     ^");
        AskedTable x = Check.loaded("t\nx\n");
        CHECK.due("no number in the table: sum", Check.fault(x, "sum"), 3);
        CHECK.due("no number in the table: sum(", Check.fault(x, "sum("), 4);
        CHECK.due("no number in the table: sum(t)", Check.fault(x, "sum(t)"), 4);
        CHECK.due("no number in the table: sum t", Check.fault(x, "sum t"), 4);
    }

    private static void whenItChanges() {
        AskedTable x = new AskedTable();
        CHECK.due("new", x.fault(), -1);
        CHECK.due("no table", Check.ask(x, "foo"), "throws.IllegalStateException");
        CHECK.due("left as it was", x.fault(), -1);
        Check.load(x, "a\n9223372036854775807\n1\n");
        CHECK.due("load tells none", x.fault(), -1);
        CHECK.due("a fault", Check.fault(x, "rows x"), 5);
        x.cut(true, 0);
        CHECK.due("it stays after cut", x.fault(), 5);
        Check.load(x, "a\n\"");
        CHECK.due("and after a load that throws", x.fault(), 5);
        Check.load(x, "a\n9223372036854775807\n1\n");
        CHECK.due("and after load", x.fault(), 5);
        CHECK.due("a sum beyond", Check.ask(x, "sum(a)"), "throws.UnsupportedOperationException");
        CHECK.due("is a question", x.fault(), -1);
        CHECK.due("a fault at 0", Check.fault(x, "x"), 0);
        CHECK.due("a question", Check.ask(x, "rows"), 2);
        CHECK.due("has none", x.fault(), -1);
        String full = "rows" + " ".repeat(91) + "x";
        CHECK.due("at the end of a full question", Check.fault(x, full), 95);
        CHECK.due("of as many tokens as there is room", Check.fault(x, "(".repeat(96)), 0);
        CHECK.due("and of nearly as many", Check.fault(x, "rows" + ")".repeat(92)), 4);
        CHECK.due("behind a full question", Check.fault(x, "rows where" + " ".repeat(86)), 96);
    }
}
