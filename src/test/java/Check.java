/** What the tests share: texts put in, calls as texts of what they answer, and a count of what is wrong. */
final class Check {
    private static final int WORD = 8;

    private int wrong = 0;
    private int looked = 0;

    interface Call {
        Object answer();
    }

    /** The answer of a call as a text, or throws. and the exception's name. */
    static String told(Call call) {
        try {
            return String.valueOf(call.answer());
        } catch (RuntimeException e) {
            return "throws." + e.getClass().getSimpleName();
        }
    }

    void due(String what, Object got, Object want) {
        looked++;
        if (!String.valueOf(want).equals(String.valueOf(got))) {
            wrong++;
            System.out.println(shown(what) + " answered " + shown(got) + ", due is " + shown(want));
        }
    }

    void due(String what, Call call, Object want) {
        due(what, told(call), want);
    }

    void end() {
        if (wrong != 0 || looked == 0) {
            System.out.println(wrong + " of " + looked + " answers are not as due");
            System.exit(1);
        }
    }

    static String shown(Object o) {
        return String.valueOf(o).replace("\r", "\\r").replace("\n", "\\n");
    }

    static long packed(String s) {
        long w = 0;
        for (int i = s.length() - 1; i >= 0; i--) {
            w = w << 8 | s.charAt(i);
        }
        return w;
    }

    /** Makes the text or the question anew. */
    static AskedTable set(AskedTable x, boolean question, String s) {
        if (!x.cut(question, 0)) {
            throw new AssertionError("cut to 0 must go");
        }
        for (int i = 0; i < s.length(); i += WORD) {
            String piece = s.substring(i, Math.min(s.length(), i + WORD));
            if (!x.put(question, packed(piece), piece.length())) {
                throw new AssertionError("could not put " + shown(piece));
            }
        }
        return x;
    }

    /** Asked so that nothing is cut off when it is longer. */
    static boolean hasLength(AskedTable x, boolean question, int n) {
        return !x.cut(question, n + 1) && x.cut(question, n);
    }

    static AskedTable loaded(String text) {
        AskedTable x = set(new AskedTable(), false, text);
        x.load();
        return x;
    }

    static String load(AskedTable x, String text) {
        set(x, false, text);
        return told(x::load);
    }

    static String load(String text) {
        return load(new AskedTable(), text);
    }

    static String ask(AskedTable x, String question) {
        set(x, true, question);
        return told(x::ask);
    }

    /** The fault of a question that must be none. */
    static String fault(AskedTable x, String question) {
        String answer = ask(x, question);
        return answer.equals("throws.IllegalArgumentException") ? String.valueOf(x.fault()) : "asked: " + answer;
    }

    /** The numbers of line() for all of an answer, with spaces between. */
    static String asked(AskedTable x, String question) {
        String answer = ask(x, question);
        if (answer.startsWith("throws.")) {
            return answer;
        }
        StringBuilder told = new StringBuilder();
        for (int k = 0; k < x.lines(); k++) {
            told.append(k == 0 ? "" : " ").append(x.line(k));
        }
        return told.toString();
    }

    static String written(AskedTable x, boolean answer) {
        int length = x.write(answer);
        return out(x, length);
    }

    static String writtenAnswer(AskedTable x, String question) {
        String answer = ask(x, question);
        return answer.startsWith("throws.") ? answer : written(x, true);
    }

    /** OUT, whole. */
    static String out(AskedTable x) {
        StringBuilder all = new StringBuilder();
        String c = told(() -> x.out(0));
        while (!c.startsWith("throws.")) {
            all.append((char) Integer.parseInt(c));
            int next = all.length();
            c = told(() -> x.out(next));
        }
        return all.toString();
    }

    /** All that calls which change nothing tell of an object, but for its text and question. */
    static String seen(AskedTable x) {
        StringBuilder all = new StringBuilder("columns " + x.columns() + " fault " + x.fault() + " lines " + x.lines());
        for (int c = -1; c <= x.columns(); c++) {
            int column = c;
            all.append("\ntype ").append(told(() -> x.type(column)));
            String missing = told(() -> x.isMissing(0, column));
            for (int r = 0; !missing.startsWith("throws."); r++) {
                int row = r;
                all.append(' ').append(missing).append(' ').append(told(() -> x.value(row, column)));
                missing = told(() -> x.isMissing(row + 1, column));
            }
        }
        for (int k = 0; k <= Math.max(0, x.lines()); k++) {
            int line = k;
            all.append("\nline ").append(told(() -> x.line(line))).append(' ').append(told(() -> x.aggregate(line)));
        }
        return all.append("\nout ").append(out(x)).toString();
    }

    static String out(AskedTable x, int length) {
        StringBuilder all = new StringBuilder();
        for (int i = 0; i < length; i++) {
            all.append((char) x.out(i));
        }
        return all.toString();
    }
}
