/** Promise 14: write. */
public final class Promise14WriteTest {
    private static final Check CHECK = new Check();

    public static void main(String[] args) {
        tables();
        answers();
        lines();
        longest();
        throwsAndKeeps();
        CHECK.end();
    }

    private static void due(String text, String want) {
        AskedTable x = Check.loaded(text);
        CHECK.due("length of " + text, x.write(false), want.length());
        CHECK.due("table of " + text, Check.written(x, false), want);
        Check.ask(x, "rows");
        CHECK.due("rows of " + text, Check.written(x, true), want);
        if (want.length() <= 240) {
            CHECK.due("written again", Check.written(Check.loaded(want), false), want);
        }
    }

    private static void tables() {
        due("a", "a\n");
        due("\"a\",bc\r\n", "a,bc\n");
        due("a\n\n\n", "a\n\n\n");
        due("a,b\n,", "a,b\n,\n");
        due("a,b\r\n1,2020-02-29\r\n-5,\r\n", "a,b\n1,2020-02-29\n-5,\n");
        due("a\n0001-01-01\n", "a\n0001-01-01\n");
        due("a\n9223372036854775807\n-9223372036854775808\n0\n", "a\n9223372036854775807\n-9223372036854775808\n0\n");
        due("a\nx\n1\n", "a\nx\n\"1\"\n");
        due("a\n\"x\"\n\"1\"\n", "a\nx\n\"1\"\n");
        due("a\n\"\"\n\n", "a\n\"\"\n\n");
        due("a\n\"2020-02-29\"\n2019-02-29\n\"2019-02-29\"\n", "a\n\"2020-02-29\"\n2019-02-29\n2019-02-29\n");
        due("a\n1\n2020-01-01\n", "a\n\"1\"\n\"2020-01-01\"\n");
        due("a\n\"9223372036854775807\"\n9223372036854775808\n-0\n007\n", "a\n\"9223372036854775807\"\n9223372036854775808\n-0\n007\n");
        due("a\n\",\"\n\"\"\"\"\n\"\n\"\n\"\r\"\n", "a\n\",\"\n\"\"\"\"\n\"\n\"\n\"\r\"\n");
        due("a\n\"x y\"\n' ;\n", "a\nx y\n' ;\n");
        due("a\n\"a\"\"\"\"b\"\n", "a\n\"a\"\"\"\"b\"\n");
    }

    private static void answers() {
        AskedTable x = Check.loaded("a,b\n3,x\n1,\"1\"\n,\n");
        CHECK.due("ordered", Check.writtenAnswer(x, "rows order a"), "a,b\n,\n1,\"1\"\n3,x\n");
        CHECK.due("chosen", Check.writtenAnswer(x, "rows where a=3"), "a,b\n3,x\n");
        CHECK.due("none chosen", Check.writtenAnswer(x, "rows where a=4"), "a,b\n");
        CHECK.due("the table is as it was", Check.written(x, false), "a,b\n3,x\n1,\"1\"\n,\n");
        x.cut(true, 0);
        x.cut(false, 0);
        CHECK.due("without text and question", Check.written(x, true), "a,b\n");
    }

    private static void lines() {
        AskedTable x = Check.loaded("n,d,t\n3,2020-01-01,x\n-11,0005-01-01,\"5\"\n,,\n3,,\"p,\"\"q\"\n10,2020-01-01,\"\"\n");
        String[][] wants = {
            {"count", "count\n5\n"},
            {"count where n=0", "count\n0\n"},
            {"sum(n)", "sum\n5\n"},
            {"sum(n) where n<0", "sum\n-11\n"},
            {"sum(n) where n is null", "sum\n\n"},
            {"least(n)", "least\n-11\n"},
            {"least(d)", "least\n0005-01-01\n"},
            {"most(d)", "most\n2020-01-01\n"},
            {"least(t)", "least\n\"\"\n"},
            {"most(t)", "most\nx\n"},
            {"most(t) where n=-11", "most\n\"5\"\n"},
            {"most(t) where n is null", "most\n\n"},
            {"count by t", "t,count\n,1\n\"\",1\n\"5\",1\n\"p,\"\"q\",1\nx,1\n"},
            {"sum(n) by d", "d,sum\n,3\n0005-01-01,-11\n2020-01-01,13\n"},
            {"most(t) by n", "n,most\n,\n-11,\"5\"\n3,x\n10,\"\"\n"},
            {"least(t) by t where n=3", "t,least\n\"p,\"\"q\",\"p,\"\"q\"\nx,x\n"},
            {"count by n where n=0", "n,count\n"},
        };
        for (String[] want : wants) {
            CHECK.due(want[0], Check.writtenAnswer(x, want[0]), want[1]);
        }
        x = Check.loaded("a\n4611686018427387904\n4611686018427387903\n");
        CHECK.due("the greatest sum", Check.writtenAnswer(x, "sum(a)"), "sum\n9223372036854775807\n");
        x = Check.loaded("a\n-4611686018427387904\n-4611686018427387904\n");
        CHECK.due("the least sum", Check.writtenAnswer(x, "sum(a)"), "sum\n-9223372036854775808\n");
        x = Check.loaded("a\n5\n-5\n");
        CHECK.due("zero", Check.writtenAnswer(x, "sum(a)"), "sum\n0\n");
        x = Check.loaded("a\n999\n1\n");
        CHECK.due("zeros within", Check.writtenAnswer(x, "sum(a)"), "sum\n1000\n");
        x = Check.loaded("count\n1\n");
        CHECK.due("a column called count", Check.writtenAnswer(x, "count by count"), "count,count\n1,1\n");
    }

    /** More is written than the text may have. */
    private static void longest() {
        StringBuilder text = new StringBuilder("a,b,c,d,e,f\nx,x,x,x,x,x");
        StringBuilder want = new StringBuilder("a,b,c,d,e,f\nx,x,x,x,x,x\n");
        for (int row = 1; row < 16; row++) {
            text.append("\n1,2,3,4,5,6");
            want.append("\"1\",\"2\",\"3\",\"4\",\"5\",\"6\"\n");
        }
        due(text.toString(), want.toString());
        text = new StringBuilder("abcdef\nx");
        want = new StringBuilder("abcdef,least\n");
        for (int row = 1; row < 16; row++) {
            String number = String.valueOf(10000000000000L + row);
            text.append('\n').append(number);
            want.append('"').append(number).append("\",\"").append(number).append("\"\n");
        }
        want.append("x,x\n");
        CHECK.due("each cell twice", Check.writtenAnswer(Check.loaded(text.toString()), "least(abcdef) by abcdef"), want);
    }

    private static void throwsAndKeeps() {
        AskedTable x = new AskedTable();
        CHECK.due("no table", () -> x.write(false), "throws.IllegalStateException");
        CHECK.due("no answer", () -> x.write(true), "throws.IllegalStateException");
        Check.load(x, "a\n7\n");
        CHECK.due("still no answer", () -> x.write(true), "throws.IllegalStateException");
        CHECK.due("written", x.write(false), 4);
        CHECK.due("no answer now", () -> x.write(true), "throws.IllegalStateException");
        CHECK.due("OUT stays", Check.out(x, 4), "a\n7\n");
        CHECK.due("and no more", () -> x.out(4), "throws.IndexOutOfBoundsException");
        CHECK.due("a shorter one", Check.writtenAnswer(x, "rows where a=1"), "a\n");
        CHECK.due("takes its place", () -> x.out(2), "throws.IndexOutOfBoundsException");
    }
}
