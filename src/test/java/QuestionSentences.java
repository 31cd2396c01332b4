import java.util.List;
import java.util.Set;

/** The terms of a question: its tokens and its grammar. */
final class QuestionSentences {
    private static final String TABLE = "n,m,d,e,t,u\n1,5000000000,2020-01-01,2020-01-02,x,y\n,,,,,\n";
    private static final int QUESTION_ROOM = 96;

    private final Document doc;

    private QuestionSentences(Document doc) {
        this.doc = doc;
    }

    static void test(Document doc) {
        QuestionSentences all = new QuestionSentences(doc);
        all.tokens();
        all.spaces();
        all.words();
        all.numbersAndDates();
        all.texts();
        all.signs();
        all.optionalAndRepeated();
        all.questions();
        all.conditions();
        all.comparisons();
        all.sorts();
        all.depths();
        all.depthsBehindOthers();
        all.names();
    }

    /** The rows or counts that a question of the table answers. */
    private static void asks(Sentence s, String question, String want) {
        s.due(question, Check.asked(Check.loaded(TABLE), question), want);
    }

    private static void fault(Sentence s, String question, int want) {
        s.due("fault of " + question, Check.fault(Check.loaded(TABLE), question), want);
    }

    private void tokens() {
        Sentence s = doc.terms("A QUESTION is a row of TOKENS, each as long as it can be,", 9, 10);
        fault(s, "", 0);
        fault(s, "rowswhere n=1", 0);
        fault(s, "rows wheren=1", 5);
        fault(s, "rows where n=1 ordern", 15);
        fault(s, "rows order ndesc", 11);
        fault(s, "countby n", 0);
        asks(s, "rows where n=1and m is null", "");
        asks(s, "rows where n=1or n is null", "0 1");
        asks(s, "rows where d=2020-01-01or n=7", "0");
        fault(s, "rows where n=1-2", 13);
        fault(s, "rows where n=1 2", 15);
        fault(s, "rows where d=2020-01-01-", 13);
        asks(s, "rows where n<=1", "0");
        fault(s, "rows where n< =1", 14);
        asks(s, "rows where n<>7", "0");
        fault(s, "rows where n< >7", 14);
        asks(s, "rows where n>=1", "0");
        fault(s, "rows where n> =1", 14);
        fault(s, "rows where n<>=1", 14);
        fault(s, "rows where n<=>1", 14);
        fault(s, "rows where n>=>1", 14);
        fault(s, "rows where n=>1", 13);
        fault(s, "rows where n=<1", 13);
        fault(s, "rows where n==1", 13);
        fault(s, "rows where n><1", 13);
        asks(s, "rows where n>-1", "0");
        asks(s, "rows where t='x'or t='y'", "0");
        asks(s, "sum(n)where(n=1)", "1");
    }

    private void spaces() {
        Sentence s = doc.terms("with spaces before, between and behind them:", 9, 10);
        asks(s, "rows", "0 1");
        asks(s, "  rows", "0 1");
        asks(s, "rows  ", "0 1");
        asks(s, " ".repeat(92) + "rows", "0 1");
        asks(s, "rows" + " ".repeat(92), "0 1");
        asks(s, "  sum  (  n  )  by  t  where  (  n  =  1  )  and  not  t  is  null  ", "1");
        asks(s, "sum(n)by t where(n=1)and not t is null", "1");
        fault(s, " ", 1);
        fault(s, " ".repeat(QUESTION_ROOM), QUESTION_ROOM);
        fault(s, "ro ws", 0);
        fault(s, "rows where n is nu ll", 16);
        fault(s, "rows where n=- 1", 13);
        fault(s, "rows where d=2020-01- 01", 13);
        asks(s, "rows where t=' x'", "");
        asks(s, "rows where t='x '", "");
        fault(s, "   x", 3);
    }

    private void words() {
        Sentence s = doc.terms("a row of letters (a word or a name);", 9, 10);
        fault(s, "Rows", 0);
        fault(s, "rOws", 0);
        fault(s, "row", 0);
        fault(s, "rowss", 0);
        fault(s, "rows order nn", 11);
        fault(s, "rows order n1", 12);
        fault(s, "rows order n_", 12);
        fault(s, "rows order nN", 12);
        fault(s, "rows order 'n'", 11);
        fault(s, "z".repeat(QUESTION_ROOM), 0);
        fault(s, "rows where " + "n".repeat(85), 11);
    }

    private void numbersAndDates() {
        Sentence s = doc.terms("a row of digits and - (a number if it is a whole number as above,", 9, 10);
        for (String number : new String[] {"0", "-1", "9223372036854775807", "-9223372036854775808"}) {
            s.due("n<>" + number, Check.fault(Check.loaded(TABLE), "rows where n<>" + number), "asked: 1");
            s.due("m<>" + number, Check.fault(Check.loaded(TABLE), "rows where m<>" + number), "asked: 1");
            fault(s, "rows where d<>" + number, 14);
        }
        s = doc.terms("a date if it is one,", 9, 10);
        for (String date : new String[] {"0001-01-01", "9999-12-31", "2020-02-29"}) {
            s.due("d<>" + date, Check.fault(Check.loaded(TABLE), "rows where d<>" + date), "asked: 1");
            fault(s, "rows where n<>" + date, 14);
        }
        s = doc.terms("else it fits nowhere);", 9, 10);
        for (String none : new String[] {"-", "--", "-0", "00", "01", "1-", "9223372036854775808", "-9223372036854775809", "2019-02-29", "0000-01-01",
            "2020-13-01", "2020-00-01", "2020-01-00", "2020-1-1", "1".repeat(80)}) {
            fault(s, "rows where n<>" + none, 14);
            fault(s, "rows where d<>" + none, 14);
            fault(s, "rows where t<>" + none, 14);
            fault(s, "rows " + none, 5);
            fault(s, none, 0);
        }
    }

    private void texts() {
        Sentence s = doc.terms("a text: a ', any characters but ', and a '", 9, 10);
        for (char c = 32; c <= 126; c++) {
            if (c != '\'') {
                String cell = c == '"' ? "\"\"" : String.valueOf(c);
                AskedTable x = Check.loaded("a\n\"" + cell + "\"\n\"" + cell + cell + "\"\nx\n");
                s.due("a text of " + c, Check.asked(x, "rows where a='" + c + "'"), c == 'x' ? "0 2" : "0");
                s.due("a text of two " + c, Check.asked(x, "rows where a='" + c + c + "'"), "1");
            }
        }
        s.due("a text without characters", Check.asked(Check.loaded("a\n\"\"\n\nx\n"), "rows where a=''"), "0");
        fault(s, "rows where t='x''y'", 16);
        fault(s, "rows where t='''", 15);
        s = doc.terms("(without that one it fits nowhere);", 9, 10);
        fault(s, "rows where t='", 13);
        fault(s, "rows where t='x", 13);
        fault(s, "rows where t='x ", 13);
        fault(s, "rows where t='" + "x".repeat(82), 13);
        fault(s, "rows where t='x'" + " ".repeat(79) + "'", 95);
        fault(s, "rows '", 5);
        fault(s, "'", 0);
        fault(s, "rows where t='x or t='y'", 22);
        fault(s, "rows where n='", 13);
    }

    private void signs() {
        Sentence s = doc.terms("the signs ( ) = <> < <= > >= ;", 9, 10);
        for (String sign : new String[] {"=", "<>", "<", "<=", ">", ">="}) {
            s.due("n" + sign + "0", Check.fault(Check.loaded(TABLE), "rows where n" + sign + "0").startsWith("asked"), true);
            fault(s, "rows where n" + sign, 12 + sign.length());
        }
        asks(s, "rows where (n=1)", "0");
        asks(s, "sum(n)", "2");
        s = doc.terms("any other character fits nowhere.", 10);
        for (char c = 32; c <= 126; c++) {
            boolean other = !Character.isLetterOrDigit(c) && " ()=<>-'".indexOf(c) < 0 || c >= 'A' && c <= 'Z';
            if (other) {
                fault(s, String.valueOf(c), 0);
                fault(s, "rows" + c, 4);
                fault(s, "rows where " + c + "n=1", 11);
                fault(s, "rows where n" + c + "=1", 12);
                fault(s, "rows where n=" + c + "1", 13);
                fault(s, "rows where n=1" + c, 14);
                fault(s, "rows where n<" + c, 13);
                fault(s, "rows order n " + c, 13);
                fault(s, "sum(" + c + "n)", 4);
                fault(s, "sum(n" + c + ")", 5);
            }
        }
    }

    private void optionalAndRepeated() {
        Sentence s = doc.terms("The grammar ([..] may be missing, {..} any number of times):", 9);
        asks(s, "rows", "0 1");
        asks(s, "count", "2");
        asks(s, "rows where n=1" + "or n=1".repeat(13), "0");
        asks(s, "rows where n=1" + "and n=1".repeat(11), "0");
        asks(s, "rows where n is null" + " or n=1".repeat(10), "0 1");
        asks(s, "rows where n=7" + "or n=7".repeat(12) + "or n=1", "0");
        asks(s, "rows where n=1" + "and n=1".repeat(10) + "and n=7", "");
        asks(s, "count where n=1" + "and n=1or n=1".repeat(6), "1");
    }

    /** All tokens that there are, one of each kind. */
    private static final List<String> TOKENS = List.of("rows", "count", "sum", "least", "most", "by", "where", "and", "or", "not", "is", "null",
            "order", "desc", "n", "m", "d", "e", "t", "u", "zz", "5", "2020-01-01", "'x'", "(", ")", "=", "<>", "<", "<=", ">", ">=",
            "01", "-0", "2019-02-29", "'x", ";", "N");
    private static final String SIGNS = " = <> < <= > >=";
    private static final String COLUMNS = " n m d e t u";
    private static final String PARTS = " not (" + COLUMNS;

    /** What may follow on what has been read: END if it may end. All others are faults there. */
    private static void follows(Sentence s, String before, String list) {
        Set<String> may = Set.of(list.strip().split(" +"));
        AskedTable end = Check.loaded(TABLE);
        String ended = Check.fault(end, before);
        s.due("the end of " + before, may.contains("END") ? ended.startsWith("asked: ") : ended.equals(String.valueOf(before.length())), true);
        int place = before.isEmpty() ? 0 : before.length() + 1;
        for (String token : TOKENS) {
            String question = before.isEmpty() ? token : before + " " + token;
            AskedTable x = Check.loaded(TABLE);
            String told = Check.fault(x, question);
            boolean goes = told.startsWith("asked: ") || told.equals(String.valueOf(question.length()));
            s.due("fault of " + question, may.contains(token) ? goes : told.equals(String.valueOf(place)), true);
        }
    }

    private void questions() {
        Sentence s = doc.terms("QUESTION: 'rows' ['where' CONDITION] ['order' NAME ['desc']],", 9, 10);
        follows(s, "", "rows count sum least most");
        follows(s, "rows", "where order END");
        follows(s, "rows where", PARTS);
        follows(s, "rows where n is null", "and or order END");
        follows(s, "rows order", COLUMNS);
        follows(s, "rows order n", "desc END");
        follows(s, "rows order n desc", "END");
        follows(s, "rows where n = 5 order", COLUMNS);
        follows(s, "rows where n = 5 order t", "desc END");
        follows(s, "rows where n = 5 order t desc", "END");
        s = doc.terms("or AGGREGATE ['by' NAME] ['where' CONDITION].", 9, 10);
        follows(s, "count by", COLUMNS);
        follows(s, "count by n", "where END");
        follows(s, "count by t where", PARTS);
        follows(s, "count where n is null", "and or END");
        follows(s, "count by d where d is null", "and or END");
        follows(s, "sum ( n ) by t where n = 5", "and or END");
        s = doc.terms("AGGREGATE: 'count', or 'sum', 'least' or 'most' with '(' NAME ')'.", 9, 10);
        follows(s, "count", "by where END");
        for (String word : new String[] {"sum", "least", "most"}) {
            follows(s, word, "(");
            follows(s, word + " (", word.equals("sum") ? "n m" : COLUMNS);
            follows(s, word + " ( n", ")");
            follows(s, word + " ( m )", "by where END");
        }
        follows(s, "least ( t )", "by where END");
        follows(s, "most ( d )", "by where END");
    }

    private void conditions() {
        Sentence s = doc.terms("CONDITION: ALL {'or' ALL}.", 9, 10);
        follows(s, "rows where n = 5 or", PARTS);
        follows(s, "rows where n = 5 or t is null", "and or order END");
        follows(s, "count where n = 5 or n = 5 or", PARTS);
        s = doc.terms("ALL: PART {'and' PART}.", 9, 10);
        follows(s, "rows where n = 5 and", PARTS);
        follows(s, "rows where n = 5 and t is null", "and or order END");
        follows(s, "count where n = 5 and n = 5 and", PARTS);
        String table = "a,b,c\n0,0,0\n0,0,1\n0,1,0\n0,1,1\n1,0,0\n1,0,1\n1,1,0\n1,1,1\n";
        s.due("and before or", Check.asked(Check.loaded(table), "rows where a=1 and b=1 or c=1"), "1 3 5 6 7");
        s.due("and behind or", Check.asked(Check.loaded(table), "rows where a=1 or b=1 and c=1"), "3 4 5 6 7");
        s = doc.terms("PART: 'not' PART, '(' CONDITION ')', or a COMPARISON.", 9, 10);
        follows(s, "rows where not", PARTS);
        follows(s, "rows where (", PARTS);
        follows(s, "rows where not n = 5", "and or order END");
        follows(s, "rows where ( n = 5", "and or )");
        follows(s, "rows where ( n = 5 )", "and or order END");
        follows(s, "rows where ( ( n = 5 )", "and or )");
        follows(s, "count where ( ( n = 5 ) )", "and or END");
        follows(s, "rows where ( n = 5 or", PARTS);
        follows(s, "rows where not ( n = 5 and", PARTS);
        s.due("not of one part alone", Check.asked(Check.loaded(table), "rows where not a=1 and b=1"), "2 3");
        s.due("not of what is in (", Check.asked(Check.loaded(table), "rows where not (a=1 and b=1)"), "0 1 2 3 4 5");
        s.due("not and or", Check.asked(Check.loaded(table), "rows where not a=1 or b=1"), "0 1 2 3 6 7");
        s.due("( before and", Check.asked(Check.loaded(table), "rows where (a=1 or b=1) and c=1"), "3 5 7");
        s.due("and before (", Check.asked(Check.loaded(table), "rows where a=1 and (b=1 or c=1)"), "5 6 7");
    }

    private void comparisons() {
        Sentence s = doc.terms("COMPARISON: NAME 'is' 'null',", 9, 10);
        follows(s, "rows where n", "is" + SIGNS);
        follows(s, "rows where n is", "null");
        follows(s, "rows where t is", "null");
        follows(s, "rows where not ( d", "is" + SIGNS);
        s = doc.terms("or NAME, one of = <> < <= > >=, and a NAME, number, date or text.", 9, 10);
        for (String sign : SIGNS.strip().split(" ")) {
            follows(s, "rows where n " + sign, "n m 5");
            follows(s, "rows where m " + sign, "n m 5");
            follows(s, "rows where d " + sign, "d e 2020-01-01");
            follows(s, "rows where t " + sign, "t u 'x'");
        }
        follows(s, "rows where n = n", "and or order END");
        follows(s, "rows where d < 2020-01-01", "and or order END");
        follows(s, "rows where t >= 'x'", "and or order END");
    }

    private void sorts() {
        Sentence s = doc.terms("What is compared must both be numbers (of columns of type 0 or 1), both dates, or both texts;", 9, 10);
        String[] names = {"n", "m", "d", "e", "t", "u"};
        String[] literals = {"5", "2147483648", "2020-01-01", "2020-01-01", "'x'", "''"};
        for (int i = 0; i < 6; i++) {
            for (int j = 0; j < 6; j++) {
                boolean fits = i / 2 == j / 2;
                for (String other : new String[] {names[j], literals[j]}) {
                    String told = Check.fault(Check.loaded(TABLE), "rows where " + names[i] + "=" + other);
                    s.due(names[i] + "=" + other, fits ? told.startsWith("asked: ") : told.equals("13"), true);
                }
            }
        }
        s.due("a date in a text", Check.fault(Check.loaded("d\n2020-01-01\n"), "rows where d='2020-01-01'"), "13");
        s.due("a number in a text", Check.fault(Check.loaded("n\n1\n"), "rows where n='1'"), "13");
        s.due("a column of quoted numbers", Check.fault(Check.loaded("n\n\"1\"\n"), "rows where n=1"), "13");
        s.due("it is one of texts", Check.asked(Check.loaded("n\n\"1\"\n"), "rows where n='1'"), "0");
        s.due("a column without values", Check.fault(Check.loaded("n\n\n"), "rows where n='x'"), "13");
        s.due("it is one of numbers", Check.asked(Check.loaded("n\n\n"), "rows where n=1"), "");
        s = doc.terms("for sum the column must be of type 0 or 1.", 9, 10);
        String[] wants = {"asked: 1", "asked: 1", "4", "4", "4", "4"};
        for (int i = 0; i < 6; i++) {
            s.due("sum of " + names[i], Check.fault(Check.loaded(TABLE), "sum(" + names[i] + ")"), wants[i]);
            s.due("least of " + names[i], Check.fault(Check.loaded(TABLE), "least(" + names[i] + ")"), "asked: 1");
            s.due("most of " + names[i], Check.fault(Check.loaded(TABLE), "most(" + names[i] + ")"), "asked: 1");
        }
        s.due("sum of a column without values", Check.fault(Check.loaded("a\n\n"), "sum(a)"), "asked: 1");
        s.due("sum of a column without rows", Check.fault(Check.loaded("a"), "sum(a)"), "asked: 1");
        s.due("sum of quoted numbers", Check.fault(Check.loaded("a\n\"1\""), "sum(a)"), "4");
    }

    /** Each mixture of eight, and what a ninth of either kind does. */
    private void depths() {
        Sentence s = doc.terms("'not' and '(' lie at most 8 in one another.", 9, 10);
        for (int mixture = 0; mixture < 256; mixture++) {
            AskedTable x = Check.loaded("a\n1\n2\n\n");
            StringBuilder before = new StringBuilder("rows where ");
            int opened = 0;
            for (int i = 0; i < 8; i++) {
                boolean open = (mixture >> i & 1) == 1;
                before.append(open ? "(" : "not ");
                opened += open ? 1 : 0;
            }
            String behind = ")".repeat(opened);
            s.due(before + "a=1" + behind, Check.asked(x, before + "a=1" + behind), opened % 2 == 0 ? "0" : "1");
            for (String ninth : new String[] {"not ", "("}) {
                s.due("fault of " + before + ninth, Check.fault(x, before + ninth + "a=1" + behind), before.length());
            }
        }
        AskedTable x = Check.loaded("a\n1\n2\n\n");
        String[] beside = {"rows where ((((((((a=1)))))))) and ((((((((a=1))))))))",
            "rows where not not not not a=1 and not not not not not not not not a=1",
            "rows where ((((((((a=1 or a=1) or a=1)))) and a=1))) and (((a=1)))",
            "rows where (((((((not a=2 and not a=2)))))))"};
        for (String question : beside) {
            s.due("beside one another: " + question, Check.asked(x, question), "0");
        }
        s.due("the ( of sum", Check.asked(x, "sum(a) where ((((((((a=1))))))))"), "1");
    }

    /** What stands before, in the same ( or in one around it, takes nothing from the eight and adds nothing to them. */
    private void depthsBehindOthers() {
        Sentence s = doc.terms("'not' and '(' lie at most 8 in one another.", 9, 10);
        String[] before = {"a=1 and ", "a=1 or ", "a=1 and a=1 and ", "a=7 or a=7 or ", "a=7 or a=1 and ", "a=1 and a=1 or ", "not a=2 and ",
            "not a=1 or ", "(a=1 or a=2) and ", "(((a=7))) or ", "(a=1 and ", "((a=7 or ", "(a=1 and (a=7 or ", "(not a=2 and (", "not (a=2 and ",
            "(((((((a=1 and ", "(((((((a=7 or ", "((((((((a=1 and ", "((((((((a=7 or "};
        for (String open : before) {
            int inside = (int) open.chars().filter(c -> c == '(').count() - (int) open.chars().filter(c -> c == ')').count();
            int around = inside + (open.startsWith("not (") ? 1 : 0);
            for (String one : new String[] {"(", "not "}) {
                String full = "rows where " + open + one.repeat(8 - around);
                String end = "a=1" + ")".repeat(inside + (one.equals("(") ? 8 - around : 0));
                AskedTable x = Check.loaded("a\n1\n2\n");
                s.due("eight: " + full + end, Check.ask(x, full + end).startsWith("throws."), false);
                s.due("nine: " + full + "(", Check.fault(x, full + "(" + end), full.length());
                s.due("nine: " + full + "not", Check.fault(x, full + "not " + end), full.length());
            }
        }
    }

    private void names() {
        Sentence s = doc.terms("NAMES must be the columns' names (a column may be called rows, count, sum, least or most).", 9, 10);
        fault(s, "rows order x", 11);
        fault(s, "rows where x is null", 11);
        fault(s, "rows where n=x", 13);
        fault(s, "count by x", 9);
        fault(s, "sum(x)", 4);
        fault(s, "least(x)", 6);
        fault(s, "most(x)", 5);
        fault(s, "rows order rows", 11);
        fault(s, "count by count", 9);
        AskedTable cells = Check.loaded("a\nx\n\"y\"\nx\n");
        for (String cell : new String[] {"x", "y", "ax", "xy"}) {
            s.due("order " + cell + ", a cell's text", Check.fault(cells, "rows order " + cell), "11");
            s.due(cell + " is null, a cell's text", Check.fault(cells, "rows where " + cell + " is null"), "11");
            s.due("a= " + cell + ", a cell's text", Check.fault(cells, "rows where a= " + cell), "14");
            s.due("by " + cell + ", a cell's text", Check.fault(cells, "count by " + cell), "9");
        }
        Check.load(cells, "p,q\nx,y\n");
        s.due("a name of the table before", Check.fault(cells, "rows order a"), "11");
        for (String word : new String[] {"rows", "count", "sum", "least", "most"}) {
            AskedTable x = Check.loaded(word + ",b\n1,2\n2,1\n,\n");
            s.due("order " + word, Check.asked(x, "rows order " + word), "2 0 1");
            s.due(word + " desc", Check.asked(x, "rows where not " + word + " is null order " + word + " desc"), "1 0");
            s.due("compared " + word, Check.asked(x, "rows where " + word + "<b and b>" + word + " and " + word + "=1"), "0");
            s.due("by " + word, Check.asked(x, "count by " + word), "1 1 1");
            for (String aggregate : new String[] {"sum", "least", "most"}) {
                s.due(aggregate + " of " + word, Check.asked(x, aggregate + "(" + word + ") by " + word + " where " + word + "=1"), "1");
            }
            s.due("no question by itself", Check.fault(x, word + " = 1"), word.length() + 1);
        }
        AskedTable x = Check.loaded("rows,count,sum,least,most\n1,2,3,4,5\n");
        s.due("all of them", Check.asked(x, "rows where rows<count and sum<least or most is null order rows desc"), "0");
    }
}
