import java.util.Random;

/** Many made-up texts and questions, each answered by the class and by the model of the document. */
public final class ModelTest {
    private static final int TABLES = 12000;
    private static final int QUESTIONS = 12;
    private static final Check CHECK = new Check();
    private static final MadeUp MADE_UP = new MadeUp(new Random(20261117));

    public static void main(String[] args) {
        for (int i = 0; i < TABLES; i++) {
            run();
        }
        CHECK.end();
    }

    private static void run() {
        AskedTable x = new AskedTable();
        Model model = new Model();
        for (int loads = 0; loads < 2; loads++) {
            String text = MADE_UP.text();
            CHECK.due("load of " + text, Check.load(x, text), model.load(text));
            if (model.names != null) {
                compareTables(x, model, text);
                for (int i = 0; i < QUESTIONS; i++) {
                    String question = MADE_UP.question(model);
                    CHECK.due(text + " / " + question, Check.ask(x, question), model.ask(question));
                    compareAnswers(x, model, text + " / " + question);
                }
            }
        }
    }

    private static void compareTables(AskedTable x, Model model, String text) {
        CHECK.due("columns of " + text, x.columns(), model.names.size());
        CHECK.due("table of " + text, Check.written(x, false), model.writtenRows(model.allRows()));
        for (int c = 0; c < model.names.size(); c++) {
            CHECK.due("type " + c + " of " + text, x.type(c), model.types.get(c));
            for (int r = 0; r < model.rows.size(); r++) {
                int row = r;
                int column = c;
                String cell = model.text(r, c);
                CHECK.due("isMissing of " + text, x.isMissing(r, c), cell == null);
                String value = model.types.get(c) == 3 ? "throws.IllegalStateException"
                        : cell == null ? "throws.NoSuchElementException" : String.valueOf(Model.valueOf(cell));
                CHECK.due("value of " + text, () -> x.value(row, column), value);
            }
        }
    }

    private static void compareAnswers(AskedTable x, Model model, String what) {
        CHECK.due("fault of " + what, x.fault(), model.fault);
        CHECK.due("lines of " + what, x.lines(), model.lines == null ? -1 : model.lines.size());
        for (int k = 0; k < x.lines(); k++) {
            int line = k;
            CHECK.due("line of " + what, x.line(k), model.lines.get(k));
            CHECK.due("aggregate of " + what, () -> x.aggregate(line),
                    model.aggregates == null ? "throws.IllegalStateException" : model.aggregates.get(k));
        }
        CHECK.due("answer of " + what, Check.told(() -> Check.written(x, true)),
                model.written == null ? "throws.IllegalStateException" : model.written);
    }
}
