import java.util.function.Function;

/** The terms of an answer: what a condition is of a row, what is chosen and put together, and how it is written. */
final class AnswerSentences {
    private static final String[] SIGNS = {"=", "<>", "<", "<=", ">", ">="};
    private static final String MISSING = "throws.NoSuchElementException";

    private final Document doc;

    private AnswerSentences(Document doc) {
        this.doc = doc;
    }

    static void test(Document doc) {
        AnswerSentences all = new AnswerSentences(doc);
        all.comparisons();
        all.nots();
        all.joined();
        all.chosen();
        all.rows();
        all.oneLine();
        all.linesByName();
        all.written();
        all.marks();
        all.marksAmongOthers();
        all.roomOfOut();
        all.throwing();
        all.firstNamed();
    }

    private static void asks(Sentence s, AskedTable x, String question, String want) {
        s.due(question, Check.asked(x, question), want);
    }

    private static void writes(Sentence s, String text, String question, String want) {
        s.due(question + " of " + text, Check.writtenAnswer(Check.loaded(text), question), want);
    }

    /** The aggregates of all lines with spaces between, - for a missing one. */
    private static void values(Sentence s, String text, String question, String want) {
        AskedTable x = Check.loaded(text);
        Check.ask(x, question);
        StringBuilder told = new StringBuilder();
        for (int k = 0; k < x.lines(); k++) {
            int line = k;
            String value = Check.told(() -> x.aggregate(line));
            told.append(k == 0 ? "" : " ").append(value.equals(MISSING) ? "-" : value);
        }
        s.due(question + " of " + text, told.toString(), want);
    }

    private void comparisons() {
        Sentence s = doc.terms("A condition is TRUE, FALSE or UNKNOWN of a row:"
                + " a comparison is unknown, if a cell in it is missing, else true or false;", 9);
        String[][] kinds = {{"1", "1"}, {"5000000000", "1"}, {"2020-01-01", "2020-01-01"}, {"x", "'x'"}};
        for (String[] kind : kinds) {
            AskedTable x = Check.loaded("a,b\n" + kind[0] + "," + kind[0] + "\n," + kind[0] + "\n" + kind[0] + ",\n,\n");
            for (String sign : SIGNS) {
                s.due("with a column: true or false only of the row without missing cells",
                        Check.asked(x, "rows where a" + sign + "b or not a" + sign + "b"), "0");
                s.due("with itself", Check.asked(x, "rows where a" + sign + "a or not a" + sign + "a"), "0 2");
                s.due("with a value", Check.asked(x, "rows where b" + sign + kind[1] + " or not b" + sign + kind[1]), "0 1");
            }
            s.due("missing ones are not equal", Check.asked(x, "rows where a=b"), "0");
        }
        s = doc.terms("is null is true if the cell is missing, else false;", 9);
        AskedTable x = Check.loaded("a,b\n,x\n\"\",\n ,\"\"\nx,\n");
        asks(s, x, "rows where a is null", "0");
        asks(s, x, "rows where not a is null", "1 2 3");
        asks(s, x, "rows where b is null", "1 3");
        asks(s, x, "rows where not b is null", "0 2");
        asks(s, Check.loaded("a\n0\n\n"), "rows where a is null", "1");
        asks(s, Check.loaded("a\n0\n\n"), "rows where not a is null", "0");
        asks(s, Check.loaded("a\n2020-01-01\n\n"), "rows where a is null", "1");
        asks(s, Check.loaded("a\n\n\n"), "rows where a is null", "0 1");
        asks(s, Check.loaded("a\n\n\n"), "rows where not a is null", "");
    }

    private void nots() {
        Sentence s = doc.terms("not is true of false, false of true, and unknown of unknown;", 9);
        AskedTable x = Check.loaded("a\n1\n0\n\n");
        asks(s, x, "rows where not a=1", "1");
        asks(s, x, "rows where not not a=1", "0");
        asks(s, x, "rows where not not not a=1", "1");
        asks(s, x, "rows where not (not a=1 or a is null)", "0");
        asks(s, x, "rows where not a is null", "0 1");
    }

    /** Parts that are true (1), false (0) and unknown (2) in each mixture of two and of three. */
    private void joined() {
        Sentence and = doc.terms("and is false, if one part is, else unknown, if one is, else true;", 9);
        Sentence or = doc.terms("or is true, if one part is, else unknown, if one is, else false.", 9);
        String[] cells = {"0", "1", ""};
        for (int i = 0; i < 27; i++) {
            int[] parts = {i % 3, i / 3 % 3, i / 9};
            String text = "a,b,c\n" + cells[parts[0]] + "," + cells[parts[1]] + "," + cells[parts[2]] + "\n";
            for (int n = 2; n <= 3; n++) {
                boolean[] is = new boolean[3];
                for (int k = 0; k < n; k++) {
                    is[parts[k]] = true;
                }
                String third = n == 3 ? " and c=1" : "";
                truth(and, text, "a=1 and b=1" + third, is[0] ? 0 : is[2] ? 2 : 1);
                third = n == 3 ? " or c=1" : "";
                truth(or, text, "a=1 or b=1" + third, is[1] ? 1 : is[2] ? 2 : 0);
            }
        }
    }

    private static void truth(Sentence s, String text, String condition, int want) {
        AskedTable x = Check.loaded(text);
        s.due(condition + " of " + text, Check.asked(x, "rows where " + condition), want == 1 ? "0" : "");
        s.due("not (" + condition + ") of " + text, Check.asked(x, "rows where not (" + condition + ")"), want == 0 ? "0" : "");
    }

    private void chosen() {
        Sentence s = doc.terms("The CHOSEN rows are those of which the condition is true (all, without one).", 9, 11, 12);
        AskedTable x = Check.loaded("a\n1\n0\n\n1\n");
        asks(s, x, "rows", "0 1 2 3");
        asks(s, x, "rows where a=1", "0 3");
        asks(s, x, "rows where a=7", "");
        asks(s, x, "rows where a=1 or a=0 or a is null", "0 1 2 3");
        asks(s, x, "count", "4");
        asks(s, x, "count where a=1", "2");
        asks(s, x, "count where a=7", "0");
        asks(s, Check.loaded("a"), "rows", "");
        asks(s, Check.loaded("a"), "count", "0");
        asks(s, Check.loaded("a"), "rows where a is null", "");
        AskedTable full = Check.loaded("a" + "\n1".repeat(15) + "\n2");
        asks(s, full, "rows", "0 1 2 3 4 5 6 7 8 9 10 11 12 13 14 15");
        asks(s, full, "rows where a=2", "15");
        asks(s, full, "rows where not a=2", "0 1 2 3 4 5 6 7 8 9 10 11 12 13 14");
        asks(s, full, "rows where not (a=2 and a=1)", "0 1 2 3 4 5 6 7 8 9 10 11 12 13 14 15");
        asks(s, full, "rows where not a is null", "0 1 2 3 4 5 6 7 8 9 10 11 12 13 14 15");
        asks(s, full, "count where a=1", "15");
    }

    private void rows() {
        Sentence s = doc.terms("THE ANSWER of rows are the chosen rows, in their order,", 9, 12);
        AskedTable x = Check.loaded("a,b\n3,x\n1,y\n,x\n2,\n1,x\n3,\n");
        asks(s, x, "rows", "0 1 2 3 4 5");
        asks(s, x, "rows where a>1", "0 3 5");
        asks(s, x, "rows where b='x'", "0 2 4");
        s = doc.terms("or, with order, by the values of that column, the least first (the greatest with desc),", 9, 12);
        asks(s, x, "rows where a>0 order a", "1 4 3 0 5");
        asks(s, x, "rows where a>0 order a desc", "0 5 3 1 4");
        asks(s, x, "rows where b>'' order b", "0 2 4 1");
        asks(s, x, "rows where b>'' order b desc", "1 0 2 4");
        asks(s, x, "rows where a=7 order a", "");
        asks(s, x, "rows where a=2 order a desc", "3");
        asks(s, Check.loaded("a"), "rows order a", "");
        AskedTable longs = Check.loaded("a\n9223372036854775807\n-9223372036854775808\n0\n");
        asks(s, longs, "rows order a", "1 2 0");
        asks(s, longs, "rows order a desc", "0 2 1");
        AskedTable dates = Check.loaded("a\n2020-01-02\n0001-12-31\n2019-12-31\n");
        asks(s, dates, "rows order a", "1 2 0");
        asks(s, dates, "rows order a desc", "0 2 1");
        s = doc.terms("missing ones before all others (after them with desc),", 9, 12);
        asks(s, x, "rows order a", "2 1 4 3 0 5");
        asks(s, x, "rows order a desc", "0 5 3 1 4 2");
        asks(s, x, "rows order b", "3 5 0 2 4 1");
        asks(s, x, "rows order b desc", "1 0 2 4 3 5");
        asks(s, Check.loaded("a\n\"\"\n\n\"\"\n\n"), "rows order a", "1 3 0 2");
        asks(s, Check.loaded("a\n\"\"\n\n\"\"\n\n"), "rows order a desc", "0 2 1 3");
        asks(s, Check.loaded("a\n-9223372036854775808\n\n"), "rows order a", "1 0");
        asks(s, Check.loaded("a\n\n-9223372036854775808\n"), "rows order a desc", "1 0");
        s = doc.terms("equal ones in the order of their rows.", 9, 12);
        AskedTable full = Check.loaded("a\n1\n\n1\n0\n1\n0\n\n1\n0\n1\n0\n1\n1\n\n0\n1");
        asks(s, full, "rows order a", "1 6 13 3 5 8 10 14 0 2 4 7 9 11 12 15");
        asks(s, full, "rows order a desc", "0 2 4 7 9 11 12 15 3 5 8 10 14 1 6 13");
        asks(s, Check.loaded("a\n1\n\"1\"\nx\n1"), "rows order a desc", "2 0 1 3");
        s = doc.terms("It has all columns of the table.", 14);
        writes(s, "a,b,c,d,e,f\n1,2,3,4,5,6\n6,5,4,3,2,1\n", "rows where f=1", "a,b,c,d,e,f\n6,5,4,3,2,1\n");
        writes(s, "a,b\n1,2\n", "rows where b=7 order b", "a,b\n");
    }

    private void oneLine() {
        Sentence s = doc.terms("The answer of an aggregate without by is one LINE: count: how many rows are chosen;", 9, 11, 13);
        String text = "n,d,t\n5,2020-01-02,y\n,,\n-7,2020-01-01,\"\"\n";
        for (String question : new String[] {"count", "count where n=1", "sum(n)", "least(d) where n=1", "most(t)", "most(t) where n=1"}) {
            s.due("lines of " + question, Check.ask(Check.loaded(text), question), 1);
        }
        values(s, text, "count", "3");
        values(s, text, "count where n is null", "1");
        values(s, text, "count where n=1", "0");
        values(s, "a", "count", "0");
        values(s, "a" + "\n".repeat(17), "count", "16");
        s = doc.terms("sum, least, most: of the cells of the column that are not missing in chosen rows:"
                + " the sum, the least or greatest value;", 13, 14);
        values(s, text, "sum(n)", "-2");
        values(s, text, "least(n)", "-7");
        values(s, text, "most(n)", "5");
        values(s, text, "least(d)", "20200101");
        values(s, text, "most(d)", "20200102");
        values(s, text, "sum(n) where n>0", "5");
        values(s, text, "most(n) where n<0", "-7");
        values(s, text, "least(d) where n>0", "20200102");
        values(s, "a\n\n0\n\n", "sum(a)", "0");
        values(s, "a\n5\n-5\n", "sum(a)", "0");
        values(s, "a\n-1\n\n-2\n", "most(a)", "-1");
        values(s, "a\n1\n\n2\n", "least(a)", "1");
        values(s, "a\n9223372036854775807\n-9223372036854775808\n", "least(a)", "-9223372036854775808");
        values(s, "a\n-9223372036854775808\n9223372036854775807\n", "most(a)", "9223372036854775807");
        writes(s, text, "least(t)", "least\n\"\"\n");
        writes(s, text, "most(t)", "most\ny\n");
        s = doc.terms("MISSING, if there is none such.", 13, 14);
        for (String word : new String[] {"sum", "least", "most"}) {
            values(s, text, word + "(n) where n=1", "-");
            values(s, text, word + "(n) where n is null", "-");
            values(s, "a", word + "(a)", "-");
            values(s, "a\n\n\n", word + "(a)", "-");
            writes(s, text, word + "(n) where n is null", word + "\n\n");
        }
        writes(s, text, "least(t) where t is null", "least\n\n");
        writes(s, text, "most(d) where n=1", "most\n\n");
    }

    private void linesByName() {
        Sentence s = doc.terms("With by there is a line for each value that chosen rows have in that column"
                + " (one for missing ones, too, if there are such),", 9, 11, 12);
        asks(s, Check.loaded("a\n1\n1\n1\n"), "count by a", "3");
        asks(s, Check.loaded("a\n1\n\n1\n\n"), "count by a", "2 2");
        asks(s, Check.loaded("a\n\n\n"), "count by a", "2");
        asks(s, Check.loaded("a"), "count by a", "");
        asks(s, Check.loaded("a\n1\n2\n\n"), "count by a where a=2", "1");
        asks(s, Check.loaded("a\n1\n2\n\n"), "count by a where a=7", "");
        asks(s, Check.loaded("a\n1\n2\n\n"), "count by a where a is null", "1");
        asks(s, Check.loaded("a\n\n\"\"\n\n\"\"\n\"\"\n"), "count by a", "2 3");
        asks(s, Check.loaded("a\n1\n\"1\"\nx\n"), "count by a", "2 1");
        String sixteen = "a\n1\n2\n3\n4\n5\n6\n7\n8\n9\n10\n11\n12\n13\n14\n15\n\n";
        asks(s, Check.loaded(sixteen), "count by a", "1 1 1 1 1 1 1 1 1 1 1 1 1 1 1 1");
        values(s, sixteen, "sum(a) by a", "- 1 2 3 4 5 6 7 8 9 10 11 12 13 14 15");
        s = doc.terms("the missing one first, then in order;", 14);
        writes(s, "a\n2\n\n-1\n10\n2\n9\n", "count by a", "a,count\n,1\n-1,1\n2,2\n9,1\n10,1\n");
        writes(s, "a\n9223372036854775807\n0\n-9223372036854775808\n", "count by a", "a,count\n-9223372036854775808,1\n0,1\n9223372036854775807,1\n");
        writes(s, "a\n2020-01-02\n0001-01-01\n\n2019-12-31\n", "count by a", "a,count\n,1\n0001-01-01,1\n2019-12-31,1\n2020-01-02,1\n");
        writes(s, "a\nb\n\na\n\"\"\nab\nB\n", "count by a", "a,count\n,1\n\"\",1\nB,1\na,1\nab,1\nb,1\n");
        s = doc.terms("the rows with that value being the chosen ones for it.", 12, 13);
        String groups = "g,n,t\nx,1,p\ny,2,q\nx,,\n,5,r\nx,7,a\ny,-2,\n";
        asks(s, Check.loaded(groups), "sum(n) by g", "1 3 2");
        values(s, groups, "sum(n) by g", "5 8 0");
        values(s, groups, "count by g", "1 3 2");
        values(s, groups, "least(n) by g", "5 1 -2");
        values(s, groups, "most(n) by g", "5 7 2");
        values(s, groups, "sum(n) by g where n is null or n=5", "5 -");
        values(s, groups, "sum(n) by t where g='x' or g='y'", "-2 7 1 2");
        writes(s, groups, "most(t) by g", "g,most\n,r\nx,p\ny,q\n");
        s = doc.terms("Its first column is the one named (if by is there), the last one the aggregate.", 14);
        writes(s, groups, "count", "count\n6\n");
        writes(s, groups, "sum(n)", "sum\n13\n");
        writes(s, groups, "least(n) by g", "g,least\n,5\nx,1\ny,-2\n");
        writes(s, groups, "count by g where n=100", "g,count\n");
        writes(s, groups, "sum(n) by n where n>2", "n,sum\n5,5\n7,7\n");
    }

    private void written() {
        Sentence s = doc.terms("TO WRITE a table or answer is to put into OUT: the names with commas between"
                + " (that of an aggregate is count, sum, least or most); 10;", 14, 15);
        table(s, "a", "a\n");
        table(s, "\"a\",\"b\"", "a,b\n");
        table(s, "a,b,c,d,e,f\r\n", "a,b,c,d,e,f\n");
        table(s, "abcdef,rows,count,sum,least,most", "abcdef,rows,count,sum,least,most\n");
        writes(s, "a", "rows", "a\n");
        writes(s, "a", "count", "count\n0\n");
        writes(s, "a", "sum(a)", "sum\n\n");
        writes(s, "a", "least(a) by a", "a,least\n");
        writes(s, "a", "most(a) by a", "a,most\n");
        writes(s, "count\n1\n", "count by count", "count,count\n1,1\n");
        s = doc.terms("for each row or line its cells with commas between; 10.", 14, 15);
        table(s, "a\n1", "a\n1\n");
        table(s, "a\r\n1\r\n2", "a\n1\n2\n");
        table(s, "a,b,c\n1,2,3\n4,5,6", "a,b,c\n1,2,3\n4,5,6\n");
        writes(s, "a,b\n1,2\n2,1\n", "rows order b", "a,b\n2,1\n1,2\n");
        writes(s, "a,b\n1,2\n2,1\n", "sum(a) by b", "b,sum\n1,2\n2,1\n");
        s = doc.terms("A missing cell is nothing;", 14, 15);
        table(s, "a\n\n\n", "a\n\n\n");
        table(s, "a,b,c\n,,\n1,,\n,1,\n,,1\n", "a,b,c\n,,\n1,,\n,1,\n,,1\n");
        table(s, "a,b\nx,\n,x", "a,b\nx,\n,x\n");
        writes(s, "a,b\n,1\n", "sum(b) by a", "a,sum\n,1\n");
        writes(s, "a,b\n1,\n", "sum(b) by a", "a,sum\n1,\n");
        writes(s, "a,b\n,\n", "least(b) by a", "a,least\n,\n");
        s = doc.terms("a value of type 0 to 2 as it is typed;", 14, 15);
        for (String value : new String[] {"0", "-1", "7", "10", "100", "2147483647", "-2147483648", "2147483648", "-2147483649",
            "9223372036854775807", "-9223372036854775808", "1000000000000000000", "0001-01-01", "0010-10-10", "9999-12-31", "2020-02-29"}) {
            table(s, "a\n" + value, "a\n" + value + "\n");
            writes(s, "a\n" + value, "least(a) by a", "a,least\n" + value + "," + value + "\n");
            if (value.lastIndexOf('-') < 1) {
                writes(s, "a\n" + value, "sum(a)", "sum\n" + value + "\n");
            }
        }
    }

    private static void table(Sentence s, String text, String want) {
        AskedTable x = Check.loaded(text);
        s.due("length of " + text, x.write(false), want.length());
        s.due("table of " + text, Check.out(x), want);
    }

    private void marks() {
        Sentence s = doc.terms("a text is written plain, but quoted (its quotation marks twice)", 14, 15);
        for (String plain : new String[] {"x", " ", "x y", "'", "a'b", "-", "1 2", "+1", "1.5", "~", "null", "by", "Zz", "a-b"}) {
            table(s, "a\n" + plain + "\n", "a\n" + plain + "\n");
            table(s, "a\n\"" + plain + "\"\n", "a\n" + plain + "\n");
        }
        table(s, "a\n\"\"\"\"\n", "a\n\"\"\"\"\n");
        table(s, "a\n\"x\"\"y\"\"\"\"z\"\n", "a\n\"x\"\"y\"\"\"\"z\"\n");
        s = doc.terms("if it has no characters, or a comma, a quotation mark, 10 or 13,", 14, 15);
        table(s, "a\n\"\"", "a\n\"\"\n");
        for (String c : new String[] {",", "\n", "\r", "\r\n", "\"\""}) {
            for (String text : new String[] {c, "x" + c, c + "x", "x" + c + "x"}) {
                table(s, "a\n\"" + text + "\"", "a\n\"" + text + "\"\n");
                writes(s, "a\n\"" + text + "\"", "most(a) by a", "a,most\n\"" + text + "\",\"" + text + "\"\n");
            }
        }
        s = doc.terms("or is a whole number or a date.", 14, 15);
        for (String value : new String[] {"0", "5", "-5", "9223372036854775807", "-9223372036854775808", "0001-01-01", "2020-02-29", "9999-12-31"}) {
            table(s, "a\n\"" + value + "\"", "a\n\"" + value + "\"\n");
            table(s, "a\nx\n" + value + "\n", "a\nx\n\"" + value + "\"\n");
            writes(s, "a\n\"" + value + "\"", "least(a) by a", "a,least\n\"" + value + "\",\"" + value + "\"\n");
        }
        for (String none : new String[] {"-0", "00", "01", "9223372036854775808", "-9223372036854775809", "0000-01-01", "2019-02-29", "2020-1-1"}) {
            table(s, "a\n" + none + "\n\"" + none + "\"\n", "a\n" + none + "\n" + none + "\n");
        }
    }

    /** Whether a text is quoted is its own affair: each kind of cell before, below and behind each other kind. */
    private void marksAmongOthers() {
        Sentence s = doc.terms("a text is written plain, but quoted (its quotation marks twice)", 14, 15);
        String[] cells = {"x", "xy", " ", "\"\"", "\",\"", "\"\"\"\"", "\"\n\"", "\"\r\"", "\"1\"", "\"2020-01-01\"", "", "-0"};
        for (String one : cells) {
            for (String other : cells) {
                String text = "a,b,c\nx,x,x\n" + one + "," + other + "," + one + "\n" + other + "," + one + "," + other + "\n";
                table(s, text, text);
                writes(s, text, "rows", text);
            }
        }
    }

    private void roomOfOut() {
        Sentence s = doc.terms("OUT has room for whatever that is.", 14, 15);
        String row = "\n1,2,3,4,5,6";
        String quoted = "\"1\",\"2\",\"3\",\"4\",\"5\",\"6\"\n";
        table(s, "a,b,c,d,e,f\nx,x,x,x,x,x" + row.repeat(15), "a,b,c,d,e,f\nx,x,x,x,x,x\n" + quoted.repeat(15));
        table(s, "a\n\"" + "\"\"".repeat(118) + "\"", "a\n\"" + "\"\"".repeat(118) + "\"\n");
        table(s, "a\n" + "x".repeat(238), "a\n" + "x".repeat(238) + "\n");
        String cell = "\"" + "\"\"".repeat(118) + "\"";
        writes(s, "a\n" + cell, "most(a) by a", "a,most\n" + cell + "," + cell + "\n");
        longestOut(s);
        StringBuilder text = new StringBuilder("abcdef\n0");
        StringBuilder least = new StringBuilder("abcdef,least\n0,0\n");
        StringBuilder sum = new StringBuilder("abcdef,sum\n0,0\n");
        for (int i = 0; i < 15; i++) {
            String number = String.valueOf(10000000000000L + i);
            text.append('\n').append(number);
            least.append(number).append(',').append(number).append('\n');
            sum.append(number).append(',').append(number).append('\n');
        }
        writes(s, text.toString(), "least(abcdef) by abcdef", least.toString());
        writes(s, text.toString(), "sum(abcdef) by abcdef", sum.toString());
        String texts = text.toString().replace("\n0", "\nx");
        String quotedLeast = least.toString().replaceAll("(1[0-9]+)", "\"$1\"").replace("0,0\n", "") + "x,x\n";
        writes(s, texts, "least(abcdef) by abcdef", quotedLeast);
    }

    /** A text of 240 characters, all for sixteen cells that come twice and in marks, since a date is among numbers. */
    private static void longestOut(Sentence s) {
        StringBuilder text = new StringBuilder("a");
        StringBuilder want = new StringBuilder("a,least\n");
        for (int i = 0; i < 16; i++) {
            String cell = i == 15 ? "2020-01-01" : String.valueOf((i < 3 ? 100000000000000L : 20000000000000L) + i);
            text.append('\n').append(cell);
            want.append('"').append(cell).append("\",\"").append(cell).append("\"\n");
        }
        s.due("the text is full", text.length(), 240);
        s.due("the longest", want.length(), 550);
        writes(s, text.toString(), "least(a) by a", want.toString());
    }

    /** A table, an answer and an OUT, before each call that throws and behind it. */
    private void throwing() {
        Sentence s = doc.terms("A call that throws changes nothing but what is said;", 4, 6, 7, 8, 9, 12, 13, 14, 15);
        for (String question : new String[] {"rows order a desc", "sum(a) by b", "most(b)"}) {
            String[] texts = {"\"", "a\n1,2\n", "a,a\n1,2\n", "", "c" + "\n".repeat(18), ",,,,,,,,\n"};
            for (String text : texts) {
                AskedTable x = ready(question);
                Check.set(x, false, text);
                unchanged(s, x, "load of " + text, AskedTable::load);
                s.due("the text stays", Check.hasLength(x, false, text.length()), true);
            }
            unchanged(s, ready(question), "type", x -> x.type(2));
            unchanged(s, ready(question), "isMissing", x -> x.isMissing(3, 0));
            unchanged(s, ready(question), "value of no cell", x -> x.value(0, 2));
            unchanged(s, ready(question), "value of a text", x -> x.value(0, 1));
            unchanged(s, ready(question), "value of a missing cell", x -> x.value(2, 0));
            unchanged(s, ready(question), "line", x -> x.line(16));
            unchanged(s, ready(question), "aggregate", x -> x.aggregate(16));
            unchanged(s, ready(question), "out", x -> x.out(999));
        }
        unchanged(s, new AskedTable(), "ask without a table", AskedTable::ask);
        unchanged(s, new AskedTable(), "write without a table", x -> x.write(false));
        unchanged(s, new AskedTable(), "write without an answer", x -> x.write(true));
        unchanged(s, new AskedTable(), "load of an empty text", AskedTable::load);
        AskedTable y = ready("rows");
        Check.load(y, "z\n8\n");
        unchanged(s, y, "write of no answer", x -> x.write(true));
        AskedTable z = ready("rows");
        String before = Check.seen(z);
        Check.set(z, true, "rows x");
        s.due("ask of no question", z::ask, "throws.IllegalArgumentException");
        s.due("the question stays", Check.hasLength(z, true, 6), true);
        String tableAndOut = before.replaceFirst("fault -1 lines 3", "fault 5 lines -1")
                .replaceFirst("(?s)\nline.*\nout", "\nline throws.IllegalStateException throws.IllegalStateException\nout");
        s.due("but for answer and fault all stays", Check.seen(z), tableAndOut);
    }

    private static AskedTable ready(String question) {
        AskedTable x = Check.loaded("a,b\n2,x\n1,\"\"\n,\n");
        x.write(false);
        Check.ask(x, question);
        return x;
    }

    private static void unchanged(Sentence s, AskedTable x, String what, Function<AskedTable, Object> call) {
        String before = Check.seen(x);
        s.due(what + " throws", Check.told(() -> call.apply(x)).startsWith("throws."), true);
        s.due(what + " changes nothing", Check.seen(x), before);
    }

    private void firstNamed() {
        Sentence s = doc.terms("where several exceptions that a call names fit, it is the one that it names first.", 4, 8, 9, 12, 13);
        String deep = "\n1".repeat(17);
        s.due("load: all four", Check.load("A,A,A,A,A,A,A" + deep + "\""), "throws.IllegalArgumentException");
        s.due("load: the last three", Check.load("A,A,A,A,A,A,A" + deep), "throws.IllegalStateException");
        s.due("load: the last two", Check.load("A" + deep), "throws.NoSuchElementException");
        s.due("load: the last one", Check.load("a" + deep), "throws.UnsupportedOperationException");
        AskedTable x = Check.loaded("t,n\nx,\n,1\n");
        s.due("value: no cell in a column of texts", () -> x.value(2, 0), "throws.IndexOutOfBoundsException");
        s.due("value: missing in a column of texts", () -> x.value(1, 0), "throws.IllegalStateException");
        s.due("value: missing", () -> x.value(0, 1), "throws.NoSuchElementException");
        s.due("ask: no table, no question", Check.ask(new AskedTable(), "?"), "throws.IllegalStateException");
        s.due("line: no answer, no such line", () -> x.line(-1), "throws.IllegalStateException");
        s.due("aggregate: no answer, no such line", () -> x.aggregate(-1), "throws.IllegalStateException");
        Check.ask(x, "rows");
        s.due("aggregate: of rows, no such line", () -> x.aggregate(7), "throws.IllegalStateException");
        Check.ask(x, "least(t)");
        s.due("aggregate: of a text, no such line", () -> x.aggregate(7), "throws.IllegalStateException");
        Check.ask(x, "most(t) where n=1");
        s.due("aggregate: of a text, missing", () -> x.aggregate(0), "throws.IllegalStateException");
        Check.ask(x, "sum(n) where t='x'");
        s.due("aggregate: no such line, and the one there is missing", () -> x.aggregate(1), "throws.IndexOutOfBoundsException");
        s.due("aggregate: missing", () -> x.aggregate(0), "throws.NoSuchElementException");
        AskedTable y = Check.loaded("a\n9223372036854775807\n1\n");
        s.due("ask: a sum beyond, and no question", Check.ask(y, "sum(a) x"), "throws.IllegalArgumentException");
        s.due("ask: a sum beyond", Check.ask(y, "sum(a)"), "throws.UnsupportedOperationException");
    }
}
