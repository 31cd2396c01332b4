/** The promises of the calls that ask and tell of the answer: 9 to 15. */
final class AnswerCallSentences {
    private static final String OUTSIDE = "throws.IndexOutOfBoundsException";
    private static final String STATE = "throws.IllegalStateException";
    private static final String LACKING = "throws.NoSuchElementException";
    private static final String NO_QUESTION = "throws.IllegalArgumentException";
    private static final String BEYOND = "throws.UnsupportedOperationException";
    private static final int[] FAR = {-1, 16, 17, 255, 256, 65536, -65536, Integer.MAX_VALUE, Integer.MIN_VALUE};

    private final Document doc;

    private AnswerCallSentences(Document doc) {
        this.doc = doc;
    }

    static void test(Document doc) {
        AnswerCallSentences all = new AnswerCallSentences(doc);
        all.ask();
        all.askAgain();
        all.askBeyond();
        all.fault();
        all.whenFaultChanges();
        all.lines();
        all.line();
        all.aggregate();
        all.write();
        all.out();
    }

    private void ask() {
        doc.passOver("Promise 9", "`int ask() throws IllegalStateException, IllegalArgumentException, UnsupportedOperationException`:");
        Sentence s = doc.promise(9, "Asks the question: how many rows or lines the answer has.");
        String text = "a,t\n1,x\n2,y\n,x\n";
        String[][] wants = {{"rows", "3"}, {"rows where a=1", "1"}, {"rows where a=7", "0"}, {"count", "1"}, {"count where a=7", "1"},
            {"count by t", "2"}, {"count by a", "3"}, {"count by a where a=7", "0"}, {"sum(a) where a=7", "1"}, {"least(t) by t", "2"}};
        for (String[] want : wants) {
            s.due(want[0], Check.ask(Check.loaded(text), want[0]), want[1]);
        }
        s.due("sixteen rows", Check.ask(Check.loaded("a" + "\n1".repeat(16)), "rows"), 16);
        s.due("no rows", Check.ask(Check.loaded("a"), "rows"), 0);
        s = doc.promise(9, "IllegalStateException when there is no table;");
        s.due("with a question", Check.ask(new AskedTable(), "rows"), STATE);
        s.due("without one", new AskedTable()::ask, STATE);
        s.due("with no question", Check.ask(new AskedTable(), "?"), STATE);
        AskedTable unread = Check.set(new AskedTable(), false, "a\n1\n");
        s.due("with a text that was not read", Check.ask(unread, "rows"), STATE);
        Check.load(unread, "a,a");
        s.due("with a text that could not be read", Check.ask(unread, "rows"), STATE);
        s = doc.promise(9, "IllegalArgumentException when it is no question"
                + " (a name that is none, things that can't be compared, too): FAULT is told then;");
        String[][] faults = {{"", "0"}, {"x", "0"}, {"rows x", "5"}, {"rows where", "10"}, {"rows order x", "11"}, {"sum(x)", "4"},
            {"count by x", "9"}, {"rows where a='x'", "13"}, {"rows where t=1", "13"}, {"rows where a=t", "13"},
            {"rows where t=2020-01-01", "13"}, {"sum(t)", "4"}};
        for (String[] want : faults) {
            AskedTable x = Check.loaded(text);
            s.due(want[0], Check.ask(x, want[0]), NO_QUESTION);
            s.due("fault of " + want[0], x.fault(), want[1]);
        }
        s = doc.promise(9, "(With an exception there is no answer any more.)");
        for (String wrong : new String[] {"", "rows x", "sum(a)"}) {
            AskedTable x = Check.loaded("a\n9223372036854775807\n1\n");
            s.due("an answer", Check.ask(x, "rows"), 2);
            s.due("an exception", Check.ask(x, wrong).startsWith("throws."), true);
            s.due("no lines", x.lines(), -1);
            s.due("no line", () -> x.line(0), STATE);
            s.due("no aggregate", () -> x.aggregate(0), STATE);
            s.due("none to write", () -> x.write(true), STATE);
            s.due("the table stays", x.columns(), 1);
            s.due("asked again", Check.ask(x, "rows"), 2);
        }
    }

    /** What an object answers does not depend on what it was asked before. */
    private void askAgain() {
        Sentence s = doc.promise(9, "Asks the question: how many rows or lines the answer has.");
        String text = "a,t,n\n2,x,9223372036854775807\n1,\"\",\n,,1\n2,y,\n";
        String[] questions = {"rows", "rows where a=7", "rows where not t is null", "rows order a", "rows order a desc", "rows where a=2 order t desc",
            "count", "count where a=7", "count by a", "count by t where a=2", "sum(a)", "sum(a) where a=7", "sum(a) by t", "sum(n)", "sum(n) by a",
            "least(a)", "most(a) where a=7", "least(t) by a", "most(t)", "most(n) by n", "", "rows x", "rows where (a=1", "sum(t)",
            "count where ((((((((a=1))))))))", "rows where not not not not not not not not not a=1"};
        for (String first : questions) {
            for (String second : questions) {
                AskedTable used = asked(text, first);
                AskedTable fresh = Check.loaded(text);
                s.due(second + " behind " + first, Check.ask(used, second), Check.ask(fresh, second));
                s.due("what is seen then", Check.seen(used), Check.seen(fresh));
                s.due("what is written then", Check.told(() -> Check.written(used, true)), Check.told(() -> Check.written(fresh, true)));
            }
        }
    }

    private static void sum(Sentence s, String question, Object want, String... cells) {
        AskedTable x = Check.loaded("a,g\n" + String.join("\n", cells) + "\n");
        String told = Check.ask(x, question);
        s.due(question + " of " + String.join(" ", cells), told.startsWith("throws.") ? told : String.valueOf(x.aggregate(x.lines() - 1)), want);
    }

    private void askBeyond() {
        Sentence s = doc.promise(9, "UnsupportedOperationException when a sum, or one on the way in the order of the rows,"
                + " is not from -2^63 to 2^63 - 1.");
        String most = "9223372036854775807,1";
        String least = "-9223372036854775808,1";
        sum(s, "sum(a)", Long.MAX_VALUE, most);
        sum(s, "sum(a)", Long.MIN_VALUE, least);
        sum(s, "sum(a)", BEYOND, most, "1,1");
        sum(s, "sum(a)", BEYOND, "1,1", most);
        sum(s, "sum(a)", BEYOND, least, "-1,1");
        sum(s, "sum(a)", BEYOND, "-1,1", least);
        sum(s, "sum(a)", Long.MAX_VALUE, "9223372036854775806,1", "1,1");
        sum(s, "sum(a)", Long.MIN_VALUE, "-9223372036854775807,1", "-1,1");
        sum(s, "sum(a)", Long.MAX_VALUE, "4611686018427387904,1", "4611686018427387903,1");
        sum(s, "sum(a)", BEYOND, "4611686018427387904,1", "4611686018427387904,1");
        sum(s, "sum(a)", Long.MIN_VALUE, "-4611686018427387904,1", "-4611686018427387904,1");
        sum(s, "sum(a)", BEYOND, "-4611686018427387904,1", "-4611686018427387905,1");
        sum(s, "sum(a)", BEYOND, most, most);
        sum(s, "sum(a)", BEYOND, least, least);
        sum(s, "sum(a)", -1, most, least);
        sum(s, "sum(a)", BEYOND, most, "1,1", "-1,1");
        sum(s, "sum(a)", Long.MAX_VALUE, most, "-1,1", "1,1");
        sum(s, "sum(a)", Long.MAX_VALUE, "-1,1", "1,1", most);
        sum(s, "sum(a)", BEYOND, least, "-1,1", "1,1");
        sum(s, "sum(a)", Long.MIN_VALUE, least, "1,1", "-1,1");
        sum(s, "sum(a)", Long.MAX_VALUE, most, ",1", "0,1");
        sum(s, "sum(a) where a>1", Long.MAX_VALUE, most, "1,1");
        sum(s, "sum(a) where g=1", Long.MAX_VALUE, most, "1,2");
        sum(s, "sum(a) by g", 1, most, "1,2");
        sum(s, "sum(a) by g", BEYOND, most, "1,2", "1,1");
        sum(s, "sum(a) by g", BEYOND, "1,1", "9223372036854775807,2", "1,2");
        sum(s, "sum(a) by g", Long.MAX_VALUE, most, "9223372036854775807,2");
        sum(s, "sum(a) by g", Long.MAX_VALUE, "9223372036854775807,2", "1,1", "-1,2", "1,2");
        sum(s, "sum(a) by g", BEYOND, "9223372036854775807,2", "1,1", "1,2", "-1,2");
        sum(s, "sum(a)", 4294967294L, "2147483647,1", "2147483647,1");
        sum(s, "count", 2, most, most);
        sum(s, "most(a)", Long.MAX_VALUE, most, most);
        sum(s, "least(a)", Long.MIN_VALUE, least, least);
    }

    private static void fault(Sentence s, String text, String question, int want) {
        s.due("fault of " + question + " of " + text, Check.fault(Check.loaded(text), question), want);
    }

    private void fault() {
        doc.passOver("Promise 10", "`int fault()`: FAULT:");
        Sentence s = doc.promise(10, "the place of the token with which the latest question that was none went wrong:"
                + " the first character of the first token that no question (of this table) has after those before it,");
        String text = "n,d,t\n1,2020-01-01,x\n";
        fault(s, text, "x", 0);
        fault(s, text, "   x", 3);
        fault(s, text, "rows   abcdefghij", 7);
        fault(s, text, "rows where n=1 and and", 19);
        fault(s, text, "rows where n=  -12345678901234567890", 15);
        fault(s, text, "rows where d=  2019-02-29", 15);
        fault(s, text, "rows where t=  'abc", 15);
        fault(s, text, "rows x y z", 5);
        fault(s, text, "rows 'x' 'y", 5);
        fault(s, text, "rows" + " ".repeat(91) + "x", 95);
        fault(s, text, "m" + "x".repeat(95), 0);
        fault(s, text, "(".repeat(96), 0);
        fault(s, text, "rows" + "=".repeat(92), 4);
        fault(s, text, "rows" + "?".repeat(92), 4);
        fault(s, "m,t\n1,x\n", "rows where n=1", 11);
        fault(s, "m,n\n1,\n", "rows where t=1", 11);
        s = doc.promise(10, "or with the other one can't be compared or summed (of 'sum' never before its NAME);");
        fault(s, text, "rows where n=  t", 15);
        fault(s, text, "rows where n=  'x' and", 15);
        fault(s, text, "rows where t<> 5 x", 15);
        fault(s, text, "rows where d<= n", 15);
        fault(s, text, "rows where n=n and d=n", 21);
        fault(s, text, "sum(  t)", 6);
        fault(s, text, "sum(  d", 6);
        fault(s, "t\nx\n", "sum", 3);
        fault(s, "t\nx\n", "sum  ", 5);
        fault(s, "t\nx\n", "sum (", 5);
        fault(s, "t\nx\n", "sum  t", 5);
        fault(s, "t\nx\n", "sum ( t )", 6);
        fault(s, "t\nx\n", "sum ( )", 6);
        fault(s, "t\nx\n", "sum by", 4);
        s = doc.promise(10, "the question's length, if more would be wanted;");
        String[] unfinished = {"", " ", "rows where", "rows where ", "rows where n", "rows where n=", "rows where n is", "rows where not",
            "rows where (", "rows where (n=1", "rows where n=1 and", "rows where n=1 or", "rows order", "rows order   ", "count by",
            "count where", "count by n where", "sum", "sum(", "sum(n", "least", "most(t"};
        for (String question : unfinished) {
            fault(s, text, question, question.length());
        }
        fault(s, text, "rows where" + " ".repeat(86), 96);
        fault(s, text, "rows where n=1" + "and n=1".repeat(11) + " and ", 96);
    }

    private void whenFaultChanges() {
        Sentence s = doc.promise(10, "NONE when the latest one was a question (also one whose sum is beyond), or there was none;");
        AskedTable x = new AskedTable();
        s.due("new", x.fault(), -1);
        Check.load(x, "a\n9223372036854775807\n1\n");
        s.due("a table and no question yet", x.fault(), -1);
        s.due("a question", Check.ask(x, "rows") + x.fault(), "2-1");
        s.due("none", Check.ask(x, "rows x") + x.fault(), NO_QUESTION + "5");
        s.due("the latest is told", Check.ask(x, "x") + x.fault(), NO_QUESTION + "0");
        s.due("a sum beyond", Check.ask(x, "sum(a)") + x.fault(), BEYOND + "-1");
        s.due("none again", Check.ask(x, "sum(a") + x.fault(), NO_QUESTION + "5");
        x.cut(true, 0);
        x.write(false);
        Check.load(x, "\"");
        s.due("told until asked again", x.fault(), 5);
        s.due("a question again", Check.ask(x, "rows where a=7") + x.fault(), "0-1");
        s.due("NONE", AskedTable.NONE, -1);
        s = doc.promise(10, "an ask() without a table leaves it.");
        AskedTable y = new AskedTable();
        s.due("no question", Check.ask(y, "x") + y.fault(), STATE + "-1");
        s.due("an empty one", Check.ask(y, "") + y.fault(), STATE + "-1");
        s.due("a question", Check.ask(y, "rows") + y.fault(), STATE + "-1");
    }

    private void lines() {
        doc.passOver("Promise 11", "`int lines()`:");
        Sentence s = doc.promise(11, "How many rows or lines the answer has;");
        String text = "a,t\n1,x\n2,y\n,x\n";
        for (String question : new String[] {"rows", "rows where a=7", "count", "count where a=7", "count by t", "count by a",
            "count by a where a=7", "least(t)", "most(a) by a"}) {
            AskedTable x = Check.loaded(text);
            String told = Check.ask(x, question);
            s.due("lines of " + question, x.lines(), told);
        }
        s.due("of none chosen", linesOf(text, "rows where a=7"), 0);
        s.due("of one line without rows", linesOf(text, "count where a=7"), 1);
        s.due("of no value", linesOf(text, "count by a where a=7"), 0);
        s.due("of sixteen", linesOf("a" + "\n1".repeat(16), "rows order a"), 16);
        s = doc.promise(11, "NONE when there is none.");
        AskedTable x = new AskedTable();
        s.due("new", x.lines(), -1);
        Check.load(x, text);
        s.due("a table alone", x.lines(), -1);
        Check.ask(x, "rows x");
        s.due("no question", x.lines(), -1);
        Check.ask(x, "rows");
        s.due("an answer", x.lines(), 3);
        Check.load(x, text);
        s.due("loaded again", x.lines(), -1);
        Check.load(x, "a\n9223372036854775807\n1\n");
        Check.ask(x, "sum(a)");
        s.due("a sum beyond", x.lines(), -1);
    }

    private static int linesOf(String text, String question) {
        AskedTable x = Check.loaded(text);
        Check.ask(x, question);
        return x.lines();
    }

    private void line() {
        doc.passOver("Promise 12", "`int line(int k) throws IllegalStateException, IndexOutOfBoundsException`:");
        Sentence s = doc.promise(12, "Of an answer of rows: the number of row k of it.");
        String text = "a,t\n3,x\n1,y\n,x\n2,\n";
        s.due("in order", Check.asked(Check.loaded(text), "rows order a"), "2 1 3 0");
        s.due("chosen", Check.asked(Check.loaded(text), "rows where a>1"), "0 3");
        s.due("the last of sixteen", Check.asked(Check.loaded("a" + "\n0".repeat(15) + "\n1"), "rows where a=1"), "15");
        s = doc.promise(12, "Of an aggregate: how many rows were chosen for line k.");
        s.due("all", Check.asked(Check.loaded(text), "sum(a)"), "4");
        s.due("missing cells too", Check.asked(Check.loaded(text), "least(a) where t='x'"), "2");
        s.due("none", Check.asked(Check.loaded(text), "most(t) where a=7"), "0");
        s.due("of each line", Check.asked(Check.loaded(text), "sum(a) by t"), "1 2 1");
        s.due("sixteen in one", Check.asked(Check.loaded("a" + "\n".repeat(17)), "sum(a) by a"), "16");
        s = doc.promise(12, "IllegalStateException when there is no answer;");
        for (int k : new int[] {-1, 0, 1, 16, Integer.MAX_VALUE}) {
            s.due("new, line(" + k + ")", () -> new AskedTable().line(k), STATE);
            s.due("a table alone, line(" + k + ")", () -> Check.loaded(text).line(k), STATE);
        }
        s = doc.promise(12, "IndexOutOfBoundsException when it has no such row or line.");
        String[][] wants = {{"rows", "4"}, {"rows where a=7", "0"}, {"rows order a desc", "4"}, {"count", "1"}, {"count by t", "3"},
            {"count by t where a=7", "0"}};
        for (String[] want : wants) {
            AskedTable x = Check.loaded(text);
            Check.ask(x, want[0]);
            int size = Integer.parseInt(want[1]);
            for (int k = -2; k <= 17; k++) {
                int at = k;
                s.due("line(" + k + ") of " + want[0], Check.told(() -> x.line(at)).equals(OUTSIDE), k < 0 || k >= size);
            }
            for (int k : FAR) {
                s.due("line(" + k + ") of " + want[0], () -> x.line(k), OUTSIDE);
            }
        }
    }

    private void aggregate() {
        doc.passOver("Promise 13", "`long aggregate(int k) throws IllegalStateException, IndexOutOfBoundsException, NoSuchElementException`:");
        Sentence s = doc.promise(13, "The aggregate of line k, as a value.");
        String text = "n,d,t\n5,2020-01-02,x\n-7,2020-01-01,\n,,x\n";
        Object[][] wants = {{"count", 3}, {"sum(n)", -2}, {"least(n)", -7}, {"most(n)", 5}, {"least(d)", 20200101}, {"most(d)", 20200102},
            {"count by t", 1}, {"sum(n) by t", -7}, {"count where n=1", 0}};
        for (Object[] want : wants) {
            s.due((String) want[0], () -> asked(text, (String) want[0]).aggregate(0), want[1]);
        }
        s.due("of the second line", () -> asked(text, "sum(n) by t").aggregate(1), 5);
        s = doc.promise(13, "IllegalStateException when there is no answer, or it is one of rows, or of least or most of a TEXT;");
        for (int k : new int[] {-1, 0, 1, 99}) {
            s.due("no answer, " + k, () -> Check.loaded(text).aggregate(k), STATE);
            for (String question : new String[] {"rows", "rows where n=1", "least(t)", "most(t)", "least(t) where n=1", "most(t) by n",
                "most(t) by t where n=1"}) {
                s.due(question + ", " + k, () -> asked(text, question).aggregate(k), STATE);
            }
        }
        s.due("count by a text has values", () -> asked(text, "count by t").aggregate(1), 2);
        s = doc.promise(13, "IndexOutOfBoundsException when it has no such line;");
        for (int k : FAR) {
            s.due("of one line, " + k, () -> asked(text, "count").aggregate(k), OUTSIDE);
            s.due("of two lines, " + k, () -> asked(text, "sum(n) by t").aggregate(k), OUTSIDE);
        }
        s.due("of one line, 1", () -> asked(text, "count").aggregate(1), OUTSIDE);
        s.due("of two lines, 2", () -> asked(text, "sum(n) by t").aggregate(2), OUTSIDE);
        s.due("of no line, 0", () -> asked(text, "count by n where n=1").aggregate(0), OUTSIDE);
        s.due("of one that is missing, 1", () -> asked(text, "sum(n) where n=1").aggregate(1), OUTSIDE);
        s = doc.promise(13, "NoSuchElementException when it is missing.");
        for (String question : new String[] {"sum(n) where n=1", "least(n) where n is null", "most(d) where n=1", "sum(n) by n", "least(d) by d"}) {
            s.due(question, () -> asked(text, question).aggregate(0), LACKING);
        }
        s.due("the line after it is not", () -> asked(text, "sum(n) by n").aggregate(1), -7);
    }

    private static AskedTable asked(String text, String question) {
        AskedTable x = Check.loaded(text);
        Check.ask(x, question);
        return x;
    }

    private void write() {
        doc.passOver("Promise 14", "`int write(boolean answer) throws IllegalStateException`:");
        Sentence s = doc.promise(14, "WRITES the table, or the answer: the length of OUT.");
        AskedTable x = asked("a,b\n1,x\n2,\"\"\n", "rows where a=2");
        s.due("the table", x.write(false), 13);
        s.due("is in OUT", Check.out(x), "a,b\n1,x\n2,\"\"\n");
        s.due("the answer", x.write(true), 9);
        s.due("is in OUT, and nothing else", Check.out(x), "a,b\n2,\"\"\n");
        s.due("the table again", x.write(false), 13);
        s.due("is in OUT again", Check.out(x), "a,b\n1,x\n2,\"\"\n");
        x.cut(false, 0);
        x.cut(true, 0);
        s.due("without a text", x.write(false), 13);
        s.due("without a question", x.write(true), 9);
        Check.ask(x, "count");
        s.due("a shorter one", x.write(true), 8);
        s.due("of a table without rows", Check.loaded("a").write(false), 2);
        s = doc.promise(14, "IllegalStateException when there is none.");
        s.due("no table", () -> new AskedTable().write(false), STATE);
        s.due("no answer, nor a table", () -> new AskedTable().write(true), STATE);
        s.due("no answer", () -> Check.loaded("a").write(true), STATE);
        AskedTable y = asked("a\n1\n", "rows");
        y.write(true);
        Check.ask(y, "rows x");
        s.due("no answer any more", () -> y.write(true), STATE);
        s.due("OUT stays", Check.out(y), "a\n1\n");
    }

    private void out() {
        doc.passOver("Promise 15", "`int out(int i) throws IndexOutOfBoundsException`:");
        Sentence s = doc.promise(15, "Character i of OUT.");
        AskedTable x = Check.loaded("a\n\"\r\n\"\" ~\"\n");
        x.write(false);
        int[] want = {'a', 10, '"', 13, 10, '"', '"', ' ', '~', '"', 10};
        for (int i = 0; i < want.length; i++) {
            s.due("out(" + i + ")", x.out(i), want[i]);
        }
        s = doc.promise(15, "IndexOutOfBoundsException when there is none.");
        for (int i : new int[] {-1, -2, want.length, want.length + 1, 240, 241, 700, 100000, Integer.MAX_VALUE, Integer.MIN_VALUE}) {
            s.due("out(" + i + ")", () -> x.out(i), OUTSIDE);
            s.due("of a new object, out(" + i + ")", () -> new AskedTable().out(i), OUTSIDE);
        }
        s.due("of a new object, out(0)", () -> new AskedTable().out(0), OUTSIDE);
        s.due("of a table that was not written", () -> Check.loaded("a").out(0), OUTSIDE);
        Check.ask(x, "rows where a='x'");
        x.write(true);
        s.due("behind a shorter one", () -> x.out(2), OUTSIDE);
        s.due("its last one", x.out(1), 10);
    }
}
