import java.util.Random;

/** Made-up texts and questions, most of them whole, some a little wrong; the same ones for the same seed. */
final class MadeUp {
    private static final int TEXT_ROOM = 240;
    private static final int QUESTION_ROOM = 96;
    private static final String[] NAMES = {"a", "b", "c", "rows", "count", "sum", "least", "most", "abcdef"};
    private static final String[] BAD_NAMES = {"by", "null", "A", "", "abcdefg", "a1", "desc", "\"a\"", "\"x\"\"\""};
    private static final String[][] KINDS = {
        {"0", "1", "-1", "5", "17", "2147483647", "-2147483648"},
        {"0", "7", "-7", "9223372036854775807", "-9223372036854775808", "2147483648", "4611686018427387904", "-4611686018427387905"},
        {"2020-02-29", "2020-01-01", "1999-12-31", "0001-01-01", "9999-12-31", "1900-02-28"},
        {"x", "xy", "\"\"", "\"1\"", "\"a,b\"", "\"\"\"\"", "1", "-0", "2019-02-29", "\"2020-02-29\"", "\"\n\"", " ", "9223372036854775808"},
    };
    private static final String[] NOISE = {"\"", ",", "\n", "\r", "\r\n", "x", "\"\"", " ", "5", "-"};
    private static final String[] SOUP = {"rows", "count", "sum", "least", "most", "by", "where", "and", "or", "not", "is", "null",
        "order", "desc", "(", ")", "=", "<>", "<", "<=", ">", ">=", "5", "-0", "'x'", "''", "'", "2020-02-29", "2019-02-29", "a", "b", "zz", ";", "A", "9223372036854775808"};

    private final Random random;

    MadeUp(Random random) {
        this.random = random;
    }

    /** A text that is a table, or something near to one. */
    String text() {
        return cut(random.nextInt(4) == 0 ? spoiled(table(), NOISE) : table(), TEXT_ROOM);
    }

    private String pick(String[] from) {
        return from[random.nextInt(from.length)];
    }

    private static String cut(String s, int room) {
        return s.length() <= room ? s : s.substring(0, room);
    }

    private String spoiled(String s, String[] noise) {
        StringBuilder changed = new StringBuilder(s);
        for (int n = random.nextInt(2); n >= 0; n--) {
            int at = random.nextInt(changed.length() + 1);
            if (random.nextBoolean() || at == changed.length()) {
                changed.insert(at, pick(noise));
            } else {
                changed.deleteCharAt(at);
            }
        }
        return changed.toString();
    }

    private String table() {
        int columns = random.nextInt(20) == 0 ? 7 : 1 + random.nextInt(6);
        int rows = random.nextInt(10) == 0 ? 14 + random.nextInt(5) : random.nextInt(9);
        StringBuilder text = new StringBuilder();
        int shift = random.nextInt(NAMES.length);
        int[] kinds = new int[columns];
        for (int c = 0; c < columns; c++) {
            kinds[c] = random.nextInt(KINDS.length);
            text.append(c == 0 ? "" : ",").append(random.nextInt(60) == 0 ? pick(BAD_NAMES) : NAMES[(shift + c) % NAMES.length]);
        }
        for (int r = 0; r < rows; r++) {
            text.append(random.nextInt(4) == 0 ? "\r\n" : "\n");
            for (int c = 0; c < columns; c++) {
                int kind = random.nextInt(40) == 0 ? random.nextInt(KINDS.length) : kinds[c];
                text.append(c == 0 ? "" : ",").append(random.nextInt(5) == 0 ? "" : pick(KINDS[kind]));
            }
        }
        return text.append(random.nextBoolean() ? "\n" : "").toString();
    }

    /** A question about the model's table, or something near to one. */
    String question(Model model) {
        return cut(anyQuestion(model), QUESTION_ROOM);
    }

    private String anyQuestion(Model model) {
        int kind = random.nextInt(10);
        if (kind == 0) {
            return soup();
        }
        String question = wholeQuestion(model);
        return kind == 1 ? spoiled(question, SOUP) : kind == 2 ? question.substring(0, random.nextInt(question.length() + 1)) : question;
    }

    private String soup() {
        StringBuilder all = new StringBuilder(random.nextInt(3) == 0 ? "" : "rows where ");
        for (int n = random.nextInt(12); n > 0; n--) {
            all.append(pick(SOUP)).append(random.nextInt(3) == 0 ? "" : " ");
        }
        return all.toString();
    }

    private String name(Model model) {
        return random.nextInt(80) == 0 ? "zz" : model.names.get(random.nextInt(model.names.size()));
    }

    private String wholeQuestion(Model model) {
        String where = random.nextInt(3) == 0 ? "" : " where " + condition(model, random.nextInt(4));
        if (random.nextBoolean()) {
            String order = random.nextBoolean() ? "" : " order " + name(model) + (random.nextBoolean() ? "" : " desc");
            return "rows" + where + order;
        }
        String word = pick(new String[] {"count", "sum", "least", "most"});
        String by = random.nextBoolean() ? "" : " by " + name(model);
        return (word.equals("count") ? word : word + "(" + name(model) + ")") + by + where;
    }

    private String condition(Model model, int depth) {
        if (random.nextInt(60) == 0) {
            return pick(new String[] {"not ", "(", "not("}).repeat(3 + random.nextInt(7)) + comparison(model) + ")".repeat(random.nextInt(10));
        }
        int kind = depth == 0 ? 4 : random.nextInt(5);
        return switch (kind) {
            case 0 -> condition(model, depth - 1) + " and " + condition(model, depth - 1);
            case 1 -> condition(model, depth - 1) + " or " + condition(model, depth - 1);
            case 2 -> "not " + condition(model, depth - 1);
            case 3 -> "(" + condition(model, depth - 1) + ")";
            default -> comparison(model);
        };
    }

    private String comparison(Model model) {
        String left = name(model);
        if (random.nextInt(5) == 0) {
            return left + " is null";
        }
        int type = model.names.contains(left) ? model.types.get(model.names.indexOf(left)) : 0;
        int kind = random.nextInt(25) == 0 ? random.nextInt(4) : type;
        String literal = kind == 3 ? pick(new String[] {"'x'", "''", "'1'", "'a,b'", "'xy'", "'\"'"}) : pick(KINDS[kind]);
        String right = random.nextInt(4) == 0 ? name(model) : literal;
        String space = random.nextBoolean() ? "" : " ";
        return left + space + pick(new String[] {"=", "<>", "<", "<=", ">", ">="}) + space + right;
    }
}
