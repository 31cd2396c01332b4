import java.util.Random;

/** Many made-up texts and questions, each answered by the class and by the model of the document. */
public final class ModelTest {
    private static final int TABLES = 12000;
    private static final int QUESTIONS = 12;
    private static final Check CHECK = new Check();
    private static final Random RANDOM = new Random(20261117);
    private static final String[] NAMES = {"a", "b", "c", "rows", "count", "sum", "least", "most", "abcdef"};
    private static final String[] BAD_NAMES = {"by", "null", "A", "", "abcdefg", "a1", "desc", "\"a\"", "\"x\"\"\""};
    private static final String[][] KINDS = {
        {"0", "1", "-1", "5", "17", "2147483647", "-2147483648"},
        {"0", "7", "-7", "9223372036854775807", "-9223372036854775808", "2147483648", "4611686018427387904", "-4611686018427387905"},
        {"2020-02-29", "2020-01-01", "1999-12-31", "0001-01-01", "9999-12-31", "1900-02-28"},
        {"x", "xy", "\"\"", "\"1\"", "\"a,b\"", "\"\"\"\"", "1", "-0", "2019-02-29", "\"2020-02-29\"", "\"\n\"", " ", "9223372036854775808"},
    };
    private static final String[] NOISE = {"\"", ",", "\n", "\r", "\r\n", "x", "\"\"", " ", "5", "-"};
    private static final String[] SOUP = {"rows", "count", "sum", "least", "most", "by", "where", "and", "or", "not", "is", "null",
        "order", "desc", "(", ")", "=", "<>", "<", "<=", ">", ">=", "5", "-0", "'x'", "''", "'", "2020-02-29", "2019-02-29", "a", "b", "zz", ";", "A", "9223372036854775808"};

    public static void main(String[] args) {
        for (int i = 0; i < TABLES; i++) {
            run();
        }
        CHECK.end();
    }

    private static void run() {
        AskedTable x = new AskedTable();
        Model model = new Model();
        for (int loads = 0; loads < 2; loads++) {
            String text = cut(RANDOM.nextInt(4) == 0 ? spoiled(table(), NOISE) : table(), 240);
            CHECK.due("load of " + text, Check.load(x, text), model.load(text));
            if (model.names != null) {
                compareTables(x, model, text);
                for (int i = 0; i < QUESTIONS; i++) {
                    String question = cut(anyQuestion(model), 96);
                    CHECK.due(text + " / " + question, Check.ask(x, question), model.ask(question));
                    compareAnswers(x, model, text + " / " + question);
                }
            }
        }
    }

    private static void compareTables(AskedTable x, Model model, String text) {
        CHECK.due("columns of " + text, x.columns(), model.names.size());
        CHECK.due("table of " + text, Check.written(x, false), model.writtenRows(model.allRows()));
        for (int c = 0; c < model.names.size(); c++) {
            CHECK.due("type " + c + " of " + text, x.type(c), model.types.get(c));
            for (int r = 0; r < model.rows.size(); r++) {
                int row = r;
                int column = c;
                String cell = model.text(r, c);
                CHECK.due("isMissing of " + text, x.isMissing(r, c), cell == null);
                String value = model.types.get(c) == 3 ? "throws.IllegalStateException"
                        : cell == null ? "throws.NoSuchElementException" : String.valueOf(Model.valueOf(cell));
                CHECK.due("value of " + text, () -> x.value(row, column), value);
            }
        }
    }

    private static void compareAnswers(AskedTable x, Model model, String what) {
        CHECK.due("fault of " + what, x.fault(), model.fault);
        CHECK.due("lines of " + what, x.lines(), model.lines == null ? -1 : model.lines.size());
        for (int k = 0; k < x.lines(); k++) {
            int line = k;
            CHECK.due("line of " + what, x.line(k), model.lines.get(k));
            CHECK.due("aggregate of " + what, () -> x.aggregate(line),
                    model.aggregates == null ? "throws.IllegalStateException" : model.aggregates.get(k));
        }
        CHECK.due("answer of " + what, Check.told(() -> Check.written(x, true)),
                model.written == null ? "throws.IllegalStateException" : model.written);
    }

    private static String pick(String[] from) {
        return from[RANDOM.nextInt(from.length)];
    }

    private static String cut(String s, int room) {
        return s.length() <= room ? s : s.substring(0, room);
    }

    private static String spoiled(String s, String[] noise) {
        StringBuilder changed = new StringBuilder(s);
        for (int n = RANDOM.nextInt(2); n >= 0; n--) {
            int at = RANDOM.nextInt(changed.length() + 1);
            if (RANDOM.nextBoolean() || at == changed.length()) {
                changed.insert(at, pick(noise));
            } else {
                changed.deleteCharAt(at);
            }
        }
        return changed.toString();
    }

    private static String table() {
        int columns = RANDOM.nextInt(20) == 0 ? 7 : 1 + RANDOM.nextInt(6);
        int rows = RANDOM.nextInt(10) == 0 ? 14 + RANDOM.nextInt(5) : RANDOM.nextInt(9);
        StringBuilder text = new StringBuilder();
        int shift = RANDOM.nextInt(NAMES.length);
        int[] kinds = new int[columns];
        for (int c = 0; c < columns; c++) {
            kinds[c] = RANDOM.nextInt(KINDS.length);
            text.append(c == 0 ? "" : ",").append(RANDOM.nextInt(60) == 0 ? pick(BAD_NAMES) : NAMES[(shift + c) % NAMES.length]);
        }
        for (int r = 0; r < rows; r++) {
            text.append(RANDOM.nextInt(4) == 0 ? "\r\n" : "\n");
            for (int c = 0; c < columns; c++) {
                int kind = RANDOM.nextInt(40) == 0 ? RANDOM.nextInt(KINDS.length) : kinds[c];
                text.append(c == 0 ? "" : ",").append(RANDOM.nextInt(5) == 0 ? "" : pick(KINDS[kind]));
            }
        }
        return text.append(RANDOM.nextBoolean() ? "\n" : "").toString();
    }

    private static String anyQuestion(Model model) {
        int kind = RANDOM.nextInt(10);
        if (kind == 0) {
            return soup();
        }
        String question = question(model);
        return kind == 1 ? spoiled(question, SOUP) : kind == 2 ? question.substring(0, RANDOM.nextInt(question.length() + 1)) : question;
    }

    private static String soup() {
        StringBuilder all = new StringBuilder(RANDOM.nextInt(3) == 0 ? "" : "rows where ");
        for (int n = RANDOM.nextInt(12); n > 0; n--) {
            all.append(pick(SOUP)).append(RANDOM.nextInt(3) == 0 ? "" : " ");
        }
        return all.toString();
    }

    private static String name(Model model) {
        return RANDOM.nextInt(80) == 0 ? "zz" : model.names.get(RANDOM.nextInt(model.names.size()));
    }

    private static String question(Model model) {
        String where = RANDOM.nextInt(3) == 0 ? "" : " where " + condition(model, RANDOM.nextInt(4));
        if (RANDOM.nextBoolean()) {
            String order = RANDOM.nextBoolean() ? "" : " order " + name(model) + (RANDOM.nextBoolean() ? "" : " desc");
            return "rows" + where + order;
        }
        String word = pick(new String[] {"count", "sum", "least", "most"});
        String by = RANDOM.nextBoolean() ? "" : " by " + name(model);
        return (word.equals("count") ? word : word + "(" + name(model) + ")") + by + where;
    }

    private static String condition(Model model, int depth) {
        if (RANDOM.nextInt(60) == 0) {
            return pick(new String[] {"not ", "(", "not("}).repeat(3 + RANDOM.nextInt(7)) + comparison(model) + ")".repeat(RANDOM.nextInt(10));
        }
        int kind = depth == 0 ? 4 : RANDOM.nextInt(5);
        return switch (kind) {
            case 0 -> condition(model, depth - 1) + " and " + condition(model, depth - 1);
            case 1 -> condition(model, depth - 1) + " or " + condition(model, depth - 1);
            case 2 -> "not " + condition(model, depth - 1);
            case 3 -> "(" + condition(model, depth - 1) + ")";
            default -> comparison(model);
        };
    }

    private static String comparison(Model model) {
        String left = name(model);
        if (RANDOM.nextInt(5) == 0) {
            return left + " is null";
        }
        int type = model.names.contains(left) ? model.types.get(model.names.indexOf(left)) : 0;
        int kind = RANDOM.nextInt(25) == 0 ? RANDOM.nextInt(4) : type;
        String literal = kind == 3 ? pick(new String[] {"'x'", "''", "'1'", "'a,b'", "'xy'", "'\"'"}) : pick(KINDS[kind]);
        String right = RANDOM.nextInt(4) == 0 ? name(model) : literal;
        String space = RANDOM.nextBoolean() ? "" : " ";
        return left + space + pick(new String[] {"=", "<>", "<", "<=", ">", ">="}) + space + right;
    }
}
