/** Promise 9: ask. */
public final class Promise09AskTest {
    private static final String NONE = "throws.IllegalArgumentException";
    private static final String BEYOND = "throws.UnsupportedOperationException";
    private static final Check CHECK = new Check();
    private static final String ALL = "n,m,d,e,t,u\n"
            + "1,5000000000,2020-01-01,2020-01-02,x,y\n"
            + "2,,2019-05-05,2019-05-05,xy,x\n"
            + ",7,,2021-01-01,,\"\"\n"
            + "-3,7,2020-01-01,,\"a,b\",\"a,b\"\n"
            + "2,2,0001-01-01,9999-12-31,\"\",10\n";
    private static final AskedTable TABLE = Check.loaded(ALL);

    public static void main(String[] args) {
        comparisons();
        columnsCompared();
        nulls();
        logic();
        orders();
        aggregates();
        groups();
        sums();
        spaces();
        columnsLikeWords();
        wrongOnes();
        noAnswerAfterThrowing();
        CHECK.end();
    }

    private static void due(String question, Object want) {
        CHECK.due(question, Check.asked(TABLE, question), want);
    }

    private static void comparisons() {
        due("rows", "0 1 2 3 4");
        due("rows where n=2", "1 4");
        due("rows where n<>2", "0 3");
        due("rows where n<2", "0 3");
        due("rows where n<=1", "0 3");
        due("rows where n>1", "1 4");
        due("rows where n>=1", "0 1 4");
        due("rows where n>-3", "0 1 4");
        due("rows where n=-3", "3");
        due("rows where n<9223372036854775807", "0 1 3 4");
        due("rows where n<=-9223372036854775808", "");
        due("rows where m=5000000000", "0");
        due("rows where d=2020-01-01", "0 3");
        due("rows where d<2020-01-01", "1 4");
        due("rows where d>=0001-01-01", "0 1 3 4");
        due("rows where e=9999-12-31", "4");
        due("rows where t='x'", "0");
        due("rows where t>'x'", "1");
        due("rows where t>='x'", "0 1");
        due("rows where t<'x'", "3 4");
        due("rows where t=''", "4");
        due("rows where t<=''", "4");
        due("rows where t='a,b'", "3");
        due("rows where u='10'", "4");
        due("rows where t<>'zz'", "0 1 3 4");
        due("rows where t<'~'", "0 1 3 4");
    }

    private static void columnsCompared() {
        due("rows where n=n", "0 1 3 4");
        due("rows where n<m", "0 3");
        due("rows where m<=n", "4");
        due("rows where d=e", "1");
        due("rows where d<e", "0 4");
        due("rows where t=u", "3");
        due("rows where t<u", "0 4");
        due("rows where u<t", "1");
    }

    private static void nulls() {
        due("rows where n is null", "2");
        due("rows where m is null", "1");
        due("rows where t is null", "2");
        due("rows where u is null", "");
        due("rows where not e is null", "0 1 2 4");
    }

    private static void logic() {
        due("rows where not n=2", "0 3");
        due("rows where not not n=2", "1 4");
        due("rows where n=2 or n=1", "0 1 4");
        due("rows where n=2 and m=2", "4");
        due("rows where n=1 or n=2 and m=2", "0 4");
        due("rows where (n=1 or n=2) and m=2", "4");
        due("rows where not n=1 and m=2", "4");
        due("rows where not (n=1 and m=2)", "0 1 2 3 4");
        due("rows where n=1 or n=-3 or n=2", "0 1 3 4");
        due("rows where n is null or n=1", "0 2");
        due("rows where n=2 and m is null", "1");
        due("rows where n=2 or m=7", "1 2 3 4");
        due("rows where not (n=2 or m=7)", "0");
        due("rows where not (n=2 and m=7)", "0 3 4");
        due("rows where n>0 and m>0", "0 4");
        due("rows where n<0 and m<0", "");
        due("rows where not (n>100 and m>100)", "0 1 2 3 4");
        due("rows where not (n<100 or m<100)", "");
        due("rows where (((n=1)))", "0");
        due("rows where ((((((((n=1))))))))", "0");
        due("rows where not not not not not not not not n=1", "0");
        due("rows where not(not(not(not(n=1))))or((n=2)and(not(not m is null)))", "0 1");
        unknowns();
    }

    /** A row each for true, false and unknown of both sides. */
    private static void unknowns() {
        AskedTable x = Check.loaded("a,b\n1,1\n1,0\n1,\n0,1\n0,0\n0,\n,1\n,0\n,\n");
        String[][] wants = {
            {"rows where a=1 and b=1", "0"},
            {"rows where not (a=1 and b=1)", "1 3 4 5 7"},
            {"rows where a=1 or b=1", "0 1 2 3 6"},
            {"rows where not (a=1 or b=1)", "4"},
            {"rows where not a=1", "3 4 5"},
            {"rows where a=1 or not a=1", "0 1 2 3 4 5"},
            {"rows where a=1 and not a=1", ""},
        };
        for (String[] want : wants) {
            CHECK.due(want[0], Check.asked(x, want[0]), want[1]);
        }
    }

    private static void orders() {
        due("rows order n", "2 3 0 1 4");
        due("rows order n desc", "1 4 0 3 2");
        due("rows order m", "1 4 2 3 0");
        due("rows order m desc", "0 2 3 4 1");
        due("rows order d", "2 4 1 0 3");
        due("rows order d desc", "0 3 1 4 2");
        due("rows order t", "2 4 3 0 1");
        due("rows order t desc", "1 0 3 4 2");
        due("rows order u", "2 4 3 1 0");
        due("rows where n=2 or n is null order n desc", "1 4 2");
        due("rows where n=5 order n", "");
    }

    private static void aggregates() {
        due("count", "5");
        due("count where n=2", "2");
        due("count where n=5", "0");
        due("sum(n)", "5");
        due("least(t)", "5");
        due("most(d) where n=2", "2");
    }

    private static void groups() {
        due("count by n", "1 1 1 2");
        due("count by t", "1 1 1 1 1");
        due("count by u where u>='x'", "1 1");
        due("sum(m) by d", "1 1 1 2");
        due("count by n where n=5", "");
        due("count by n where n is null", "1");
    }

    private static void sums() {
        AskedTable x = Check.loaded("a,g\n9223372036854775807,1\n1,2\n-2,1\n-9223372036854775808,3\n-1,3\n1,3\n");
        CHECK.due("beyond on the way", Check.ask(x, "sum(a)"), BEYOND);
        CHECK.due("it was a question", x.fault(), -1);
        CHECK.due("no answer", x.lines(), -1);
        CHECK.due("in one of the lines", Check.ask(x, "sum(a) by g"), BEYOND);
        CHECK.due("not in these", Check.ask(x, "sum(a) by g where g<3"), 2);
        CHECK.due("their sum", x.aggregate(0), 9223372036854775805L);
        CHECK.due("to the edge", Check.ask(x, "sum(a) where a>1 or a<-2"), 1);
        CHECK.due("that sum", x.aggregate(0), -1);
        CHECK.due("below", Check.ask(x, "sum(a) where a<-2 or a=-1"), BEYOND);
        CHECK.due("other aggregates", Check.ask(x, "most(a)"), 1);
        x = Check.loaded("a\n9223372036854775806\n1\n-9223372036854775807\n-1\n");
        CHECK.due("the greatest on the way", Check.ask(x, "sum(a)"), 1);
        CHECK.due("all of it", x.aggregate(0), -1);
        x = Check.loaded("a\n-9223372036854775807\n-1\n");
        CHECK.due("the least", Check.ask(x, "sum(a)"), 1);
        CHECK.due("it is", x.aggregate(0), Long.MIN_VALUE);
        x = Check.loaded("a\n-9223372036854775807\n-2\n3\n");
        CHECK.due("below the least on the way", Check.ask(x, "sum(a)"), BEYOND);
        x = Check.loaded("a\n2147483647\n2147483647\n");
        CHECK.due("ints beyond the ints", Check.ask(x, "sum(a)"), 1);
        CHECK.due("are fine", x.aggregate(0), 4294967294L);
    }

    private static void spaces() {
        due("   rows   where   n   =   2   ", "1 4");
        due("rows where n=2and m=2", "4");
        due("rows where(n=2)order m desc", "4 1");
        due("sum(n)where n=2", "2");
        due("sum ( n ) by n", "1 1 1 2");
        due("rows where t='x'or t='xy'", "0 1");
        due("rows where n>-1", "0 1 4");
        due("rows where d=2020-01-01or n=2", "0 1 3 4");
    }

    private static void columnsLikeWords() {
        AskedTable x = Check.loaded("rows,count,sum,least,most\n1,2,3,4,5\n5,4,3,2,1\n");
        CHECK.due("rows", Check.asked(x, "rows where rows<count order rows desc"), "0");
        CHECK.due("count", Check.asked(x, "count by count"), "1 1");
        CHECK.due("sum", Check.asked(x, "sum(sum) by sum where sum=sum"), "2");
        CHECK.due("least", Check.asked(x, "least(least) by most"), "1 1");
        CHECK.due("most", Check.asked(x, "most(most) where most=most"), "2");
    }

    private static void wrongOnes() {
        String[] none = {"", " ", "x", "Rows", "rows rows", "rows by n", "count order n", "count(n)", "sum", "sum n", "sum()",
            "sum(t)", "sum(d)", "sum(x)", "least n", "rows where", "rows where x=1", "rows where n", "rows where n=",
            "rows where n=x", "rows where n='1'", "rows where n=2020-01-01", "rows where d=5", "rows where t=5",
            "rows where t=2020-01-01", "rows where n=d", "rows where t=n", "rows where d=t", "rows where 1=n",
            "rows where n is not null", "rows where n is", "rows where n = null", "rows where n==2", "rows where n=<2",
            "rows where n=01", "rows where n=-0", "rows where n=9223372036854775808", "rows where d=2019-02-29",
            "rows where t='x", "rows where t=\"x\"", "rows where n=2 and", "rows where (n=2", "rows where n=2)", "rows order",
            "rows order x", "rows order n desc desc", "rows order n where n=2", "count by", "count by x", "count where n=2 by n",
            "rows where n<2<3", "rows where nn=2", "rows;", "rows where n!=2",
            "rows where (((((((((n=1)))))))))", "rows where not not not not not not not not not n=1"};
        for (String question : none) {
            due(question, NONE);
            CHECK.due("a fault is told of " + question, TABLE.fault() >= 0, true);
        }
    }

    private static void noAnswerAfterThrowing() {
        CHECK.due("no table", new AskedTable()::ask, "throws.IllegalStateException");
        due("rows", "0 1 2 3 4");
        CHECK.due("an answer", TABLE.lines(), 5);
        due("row", NONE);
        CHECK.due("none any more", TABLE.lines(), -1);
        CHECK.due("nor a line", () -> TABLE.line(0), "throws.IllegalStateException");
        CHECK.due("the table stays", TABLE.columns(), 6);
        due("count", "5");
        CHECK.due("an answer again", TABLE.lines(), 1);
    }
}
