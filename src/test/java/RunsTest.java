import java.util.Random;

/** Made-up runs of up to 512 calls on one object, refused and throwing ones among them, beside the model. */
public final class RunsTest {
    private static final int RUNS = 1500;
    private static final int CALLS = 512;
    private static final int[] ODD = {-1, 0, 5, 6, 15, 16, 17, 240, Integer.MIN_VALUE, Integer.MAX_VALUE};
    private static final String OUTSIDE = "throws.IndexOutOfBoundsException";
    private static final String STATE = "throws.IllegalStateException";
    private static final Check CHECK = new Check();
    private static final Random RANDOM = new Random(20261118);
    private static final MadeUp MADE_UP = new MadeUp(RANDOM);

    private final AskedTable x = new AskedTable();
    private final Model model = new Model();
    private final StringBuilder text = new StringBuilder();
    private final StringBuilder question = new StringBuilder();
    private final StringBuilder told = new StringBuilder();
    private String textToCome = "";
    private String questionToCome = "";
    private String out = "";
    private int calls = 0;

    public static void main(String[] args) {
        for (int i = 0; i < RUNS; i++) {
            new RunsTest().run();
        }
        CHECK.end();
    }

    private void run() {
        while (calls < CALLS) {
            int kind = RANDOM.nextInt(40);
            if (kind < 24) {
                put(kind < 12 && (model.names != null || RANDOM.nextInt(20) == 0));
            } else if (kind == 24) {
                cut(RANDOM.nextBoolean());
            } else if (kind == 25) {
                read(RANDOM.nextBoolean());
            } else if (kind < 28) {
                write(kind == 26);
            } else {
                look(kind - 28);
            }
        }
    }

    private void due(String what, Object got, Object want) {
        calls++;
        told.append(what).append(' ');
        CHECK.due(what + " behind " + told, got, want);
    }

    private void read(boolean ofQuestion) {
        if (ofQuestion) {
            due("ask()", Check.told(x::ask), model.ask(question.toString()));
        } else {
            due("load()", Check.told(x::load), model.load(text.toString()));
        }
    }

    /** What has come whole is mostly read at once, and looked at. */
    private void readAndLook(boolean ofQuestion) {
        if (calls < CALLS && RANDOM.nextInt(8) != 0) {
            read(ofQuestion);
        }
        for (int i = RANDOM.nextInt(12); i > 0 && calls < CALLS; i--) {
            look(RANDOM.nextInt(12));
        }
    }

    /** The next piece of what is to come, or now and then something that must be refused. */
    private void put(boolean ofQuestion) {
        StringBuilder target = ofQuestion ? question : text;
        String toCome = ofQuestion ? questionToCome : textToCome;
        if (toCome.isEmpty()) {
            startAnew(ofQuestion);
            return;
        }
        int n = Math.min(toCome.length(), RANDOM.nextInt(3) != 0 ? 8 : 1 + RANDOM.nextInt(8));
        long w = Check.packed(toCome.substring(0, n));
        boolean goes = target.length() + n <= (ofQuestion ? 96 : 240);
        int odd = RANDOM.nextInt(30);
        if (odd == 0) {
            int bad = new int[] {0, 9, 10, 11, 13, 31, 127, 128, 255}[RANDOM.nextInt(9)];
            int place = RANDOM.nextInt(n);
            w = w & ~(255L << (8 * place)) | (long) bad << (8 * place);
            if (!ofQuestion && (bad == 10 || bad == 13)) {
                return;
            }
            goes = false;
        } else if (odd == 1) {
            n = RANDOM.nextBoolean() ? 9 + RANDOM.nextInt(3) : -RANDOM.nextInt(3);
            goes = false;
        } else if (odd == 2 && n < 8) {
            w |= -1L << (8 * n);
        }
        if (!goes && odd > 2) {
            setToCome(ofQuestion, "");
        }
        due("put(" + ofQuestion + ", " + w + ", " + n + ")", x.put(ofQuestion, w, n), goes);
        if (goes) {
            target.append(toCome, 0, n);
            setToCome(ofQuestion, toCome.substring(n));
            if (toCome.length() == n) {
                readAndLook(ofQuestion);
            }
        }
    }

    private void startAnew(boolean ofQuestion) {
        StringBuilder target = ofQuestion ? question : text;
        int keep = RANDOM.nextInt(6) == 0 ? target.length() : 0;
        due("cut(" + ofQuestion + ", " + keep + ")", x.cut(ofQuestion, keep), true);
        target.setLength(keep);
        setToCome(ofQuestion, ofQuestion && model.names == null ? "rows" : ofQuestion ? MADE_UP.question(model) : MADE_UP.text());
    }

    private void setToCome(boolean ofQuestion, String s) {
        if (ofQuestion) {
            questionToCome = s;
        } else {
            textToCome = s;
        }
    }

    private void cut(boolean ofQuestion) {
        StringBuilder target = ofQuestion ? question : text;
        int n = RANDOM.nextInt(3) == 0 ? ODD[RANDOM.nextInt(ODD.length)] : target.length() + 1 - RANDOM.nextInt(3);
        boolean goes = n >= 0 && n <= target.length();
        due("cut(" + ofQuestion + ", " + n + ")", x.cut(ofQuestion, n), goes);
        if (goes) {
            target.setLength(n);
        }
    }

    private void write(boolean answer) {
        String want = answer ? model.written : model.names == null ? null : model.writtenRows(model.allRows());
        due("write(" + answer + ")", Check.told(() -> x.write(answer)), want == null ? STATE : want.length());
        if (want != null) {
            out = want;
        }
    }

    private void look(int kind) {
        int columns = model.names == null ? 0 : model.names.size();
        int rows = model.names == null ? 0 : model.rows.size();
        int column = any(columns);
        int row = any(rows);
        boolean there = row >= 0 && row < rows && column >= 0 && column < columns;
        switch (kind) {
            case 0 -> due("columns()", x.columns(), columns);
            case 1 -> due("type(" + column + ")", Check.told(() -> x.type(column)), column >= 0 && column < columns ? model.types.get(column) : OUTSIDE);
            case 2 -> due("isMissing(" + row + ", " + column + ")", Check.told(() -> x.isMissing(row, column)),
                    there ? model.text(row, column) == null : OUTSIDE);
            case 3, 4 -> due("value(" + row + ", " + column + ")", Check.told(() -> x.value(row, column)), there ? value(row, column) : OUTSIDE);
            case 5 -> due("fault()", x.fault(), model.fault);
            case 6 -> due("lines()", x.lines(), model.lines == null ? -1 : model.lines.size());
            case 7, 8 -> line();
            case 9 -> aggregate();
            default -> {
                int i = any(out.length());
                due("out(" + i + ")", Check.told(() -> x.out(i)), i >= 0 && i < out.length() ? (int) out.charAt(i) : OUTSIDE);
            }
        }
    }

    private String value(int row, int column) {
        String cell = model.text(row, column);
        return model.types.get(column) == 3 ? STATE : cell == null ? "throws.NoSuchElementException" : String.valueOf(Model.valueOf(cell));
    }

    private void line() {
        int size = model.lines == null ? 0 : model.lines.size();
        int k = any(size);
        due("line(" + k + ")", Check.told(() -> x.line(k)), model.lines == null ? STATE : k >= 0 && k < size ? model.lines.get(k) : OUTSIDE);
    }

    private void aggregate() {
        int size = model.lines == null ? 0 : model.lines.size();
        int k = any(size);
        Object want = model.aggregates == null || model.ofTexts ? STATE : k >= 0 && k < size ? model.aggregates.get(k) : OUTSIDE;
        due("aggregate(" + k + ")", Check.told(() -> x.aggregate(k)), want);
    }

    private static int any(int bound) {
        return bound == 0 || RANDOM.nextInt(6) == 0 ? ODD[RANDOM.nextInt(ODD.length)] : RANDOM.nextInt(bound + 1);
    }
}
