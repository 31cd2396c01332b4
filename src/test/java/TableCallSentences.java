/** The promises of the calls that make a table and tell of it: 1 to 8. */
final class TableCallSentences {
    private static final String MARKS = "throws.IllegalArgumentException";
    private static final String UNEVEN = "throws.IllegalStateException";
    private static final String NAMES = "throws.NoSuchElementException";
    private static final String ROWS = "throws.UnsupportedOperationException";
    private static final String OUTSIDE = "throws.IndexOutOfBoundsException";
    private static final String STATE = "throws.IllegalStateException";
    private static final String LACKING = "throws.NoSuchElementException";
    private static final String NO_QUESTION = "throws.IllegalArgumentException";
    private static final int[] FAR = {-1, 16, 17, 255, 256, 65536, -65536, Integer.MAX_VALUE, Integer.MIN_VALUE};

    private final Document doc;

    private TableCallSentences(Document doc) {
        this.doc = doc;
    }

    static void test(Document doc) {
        TableCallSentences all = new TableCallSentences(doc);
        all.calls();
        all.newObject();
        all.put();
        all.putRefused();
        all.cut();
        all.load();
        all.loadAgain();
        all.loadOfWrongMarks();
        all.loadOfOtherWrongs();
        all.columns();
        all.type();
        all.isMissing();
        all.value();
    }

    private void calls() {
        doc.passOver(Document.WHAT_IT_IS, "A text of comma-separated values is read, strictly, as a table whose columns find their types;"
                + " questions in a small language choose rows, sort them, put them together; and tables and answers are written as such texts again.");
        Sentence s = doc.says(Document.WHAT_IT_IS,
                "An object is used for at most 512 calls after it has been made; what later calls answer is free.", "All promises");
        AskedTable x = new AskedTable();
        x.put(false, Check.packed("a\n7\n"), 4);
        x.put(true, Check.packed("sum(a)"), 6);
        for (int call = 3; call <= 508; call++) {
            s.due("call " + call, call % 3 == 0 ? x.load() : call % 3 == 1 ? x.ask() : x.write(false), call % 3 == 2 ? 4 : 1);
        }
        s.due("call 509", Check.told(x::ask), 1);
        s.due("call 510", x.aggregate(0), 7);
        s.due("call 511", x.write(true), 6);
        s.due("call 512", x.out(4), (int) '7');
    }

    private void newObject() {
        doc.passOver("Promise 1", "`AskedTable()`:");
        Sentence s = doc.promise(1, "An empty text,");
        s.due("its length", Check.hasLength(new AskedTable(), false, 0), true);
        s.due("load", new AskedTable()::load, NAMES);
        s = doc.promise(1, "an empty question,");
        s.due("its length", Check.hasLength(new AskedTable(), true, 0), true);
        AskedTable x = Check.loaded("a");
        s.due("ask", x::ask, NO_QUESTION);
        s.due("fault", x.fault(), 0);
        s = doc.promise(1, "no table,");
        AskedTable y = new AskedTable();
        s.due("columns", y.columns(), 0);
        s.due("type", () -> y.type(0), OUTSIDE);
        s.due("isMissing", () -> y.isMissing(0, 0), OUTSIDE);
        s.due("value", () -> y.value(0, 0), OUTSIDE);
        s.due("ask", y::ask, STATE);
        s.due("write", () -> y.write(false), STATE);
        s = doc.promise(1, "no answer;");
        s.due("lines", y.lines(), -1);
        s.due("line", () -> y.line(0), STATE);
        s.due("aggregate", () -> y.aggregate(0), STATE);
        s.due("write", () -> y.write(true), STATE);
        s = doc.promise(1, "OUT is empty.");
        s.due("out", () -> y.out(0), OUTSIDE);
        s.due("out(-1)", () -> y.out(-1), OUTSIDE);
    }

    private void put() {
        doc.passOver("Promise 2", "`boolean put(boolean question, long w, int n)`:");
        Sentence s = doc.promise(2, "n characters come behind the text, or behind the question, the lowest byte of w first");
        String cell = "abcdefghijklmnopqrstuvwxyz~{}|";
        for (int n = 1; n <= 8; n++) {
            AskedTable x = new AskedTable();
            putBy(s, x, false, "c\n" + cell, n);
            putBy(s, x, true, "rows where c='" + cell + "'", n);
            s.due("the text, by " + n, x::load, 1);
            s.due("it is", Check.written(x, false), "c\n" + cell + "\n");
            s.due("the question, by " + n, x::ask, 1);
        }
        AskedTable x = new AskedTable();
        s.due("what lies above does not count", x.put(false, 0xFFFFFFFFFFFFFF00L | 'a', 1), true);
        s.due("nor with a 0 there", x.put(false, 0x0900000000000000L | Check.packed("b\nx,\ny,"), 3), true);
        s.due("nor above it", x.put(false, 0x8080808080800A39L, 2), true);
        s.due("only what was asked for came", Check.hasLength(x, false, 6), true);
        s.due("load", x::load, 1);
        s.due("in this order", Check.written(x, false), "ab\nx9\n");
        s = doc.promise(2, "(they stay, whatever reads them; cut() alone makes them shorter).");
        AskedTable y = Check.loaded("a\n1\n");
        Check.set(y, true, "rows");
        for (int turn = 0; turn < 3; turn++) {
            y.load();
            y.ask();
            y.write(true);
            s.due("the text after it was read", Check.hasLength(y, false, 4), true);
            s.due("the question after it was read", Check.hasLength(y, true, 4), true);
        }
        y.put(false, '"', 1);
        s.due("a load that throws", y::load, MARKS);
        s.due("the text stays", Check.hasLength(y, false, 5), true);
        y.put(true, '?', 1);
        s.due("an ask that throws", y::ask, NO_QUESTION);
        s.due("the question stays", Check.hasLength(y, true, 5), true);
        y.put(false, Check.packed("2\""), 2);
        y.load();
        s.due("and goes on", Check.written(y, false), "a\n\"1\"\n\"2\"\n");
        y.cut(true, 4);
        y.put(true, Check.packed(" order a"), 8);
        s.due("so does the question", Check.told(y::ask), 2);
    }

    private static void putBy(Sentence s, AskedTable x, boolean question, String all, int n) {
        for (int i = 0; i < all.length(); i += n) {
            String piece = all.substring(i, Math.min(all.length(), i + n));
            s.due("put of " + piece, x.put(question, Check.packed(piece), piece.length()), true);
        }
    }

    private void putRefused() {
        Sentence s = doc.promise(2, "False, changing nothing, when n is not 1 .. 8,");
        for (int n = -10; n <= 20; n++) {
            refused(s, Check.packed("aaaaaaaa"), n, n >= 1 && n <= 8);
        }
        for (int n : FAR) {
            refused(s, Check.packed("aaaaaaaa"), n, false);
        }
        s = doc.promise(2, "there would be more than it may have,");
        for (boolean question : new boolean[] {false, true}) {
            int room = question ? 96 : 240;
            for (int have = room - 8; have <= room; have++) {
                for (int n = 1; n <= 8; n++) {
                    AskedTable x = Check.set(new AskedTable(), question, "a".repeat(have));
                    boolean goes = have + n <= room;
                    s.due(n + " behind " + have, x.put(question, Check.packed("aaaaaaaa"), n), goes);
                    s.due("its length then", Check.hasLength(x, question, goes ? have + n : have), true);
                    s.due("the other one", Check.hasLength(x, !question, 0), true);
                }
            }
        }
        s = doc.promise(2, "or one is not as said.");
        for (int c = 0; c < 256; c++) {
            boolean printed = c >= 32 && c <= 126;
            for (int place = 0; place < 8; place++) {
                long w = Check.packed("aaaaaaaa") & ~(255L << (8 * place)) | (long) c << (8 * place);
                AskedTable x = new AskedTable();
                boolean text = printed || c == 10 || c == 13;
                s.due(c + " at " + place + " of the text", x.put(false, w, 8), text);
                s.due(c + " at " + place + " of the question", x.put(true, w, 8), printed);
                s.due("the text's length then", Check.hasLength(x, false, text ? 8 : 0), true);
                s.due("the question's length then", Check.hasLength(x, true, printed ? 8 : 0), true);
                s.due(c + " behind what is put", new AskedTable().put(true, w, place == 0 ? 1 : place), place > 0 || printed);
            }
        }
    }

    private static void refused(Sentence s, long w, int n, boolean goes) {
        for (boolean question : new boolean[] {false, true}) {
            AskedTable x = Check.set(new AskedTable(), question, "abc");
            s.due("put of " + n, x.put(question, w, n), goes);
            s.due("its length then", Check.hasLength(x, question, goes ? 3 + n : 3), true);
        }
    }

    private void cut() {
        doc.passOver("Promise 3", "`boolean cut(boolean question, int n)`:");
        Sentence s = doc.promise(3, "The text or question keeps its first n characters.");
        String text = "ab\nabc\ndefghij";
        for (int n = 0; n <= text.length(); n++) {
            AskedTable x = Check.set(new AskedTable(), false, text);
            Check.set(x, true, "rows");
            s.due("cut to " + n, x.cut(false, n), true);
            s.due("so many are left", Check.hasLength(x, false, n), true);
            s.due("the question stays", Check.hasLength(x, true, 4), true);
            x.put(false, '~', 1);
            String kept = text.substring(0, n) + "~";
            String told = Check.told(x::load);
            s.due("they are the first", told.startsWith("throws.") ? told : Check.written(x, false), n < 3 ? NAMES : kept + "\n");
            AskedTable y = Check.set(new AskedTable(), true, "rows order a");
            s.due("cut of the question", y.cut(true, Math.min(n, 12)), true);
            s.due("is so long", Check.hasLength(y, true, Math.min(n, 12)), true);
        }
        AskedTable x = Check.loaded("a\n2\n1\n");
        Check.set(x, true, "rows order a desc");
        x.cut(true, 12);
        s.due("a question cut", Check.told(x::ask) + x.line(0), "21");
        x.cut(true, 4);
        s.due("and cut again", Check.told(x::ask) + x.line(0), "20");
        s = doc.promise(3, "False, changing nothing, when n is negative,");
        for (boolean question : new boolean[] {false, true}) {
            for (int n : new int[] {-1, -2, -256, Integer.MIN_VALUE}) {
                AskedTable y = Check.set(new AskedTable(), question, "abc");
                s.due("cut(" + n + ")", y.cut(question, n), false);
                s.due("it stays", Check.hasLength(y, question, 3), true);
            }
        }
        s = doc.promise(3, "or it has not so many.");
        for (boolean question : new boolean[] {false, true}) {
            for (int n : new int[] {4, 5, 96, 97, 240, 241, Integer.MAX_VALUE}) {
                AskedTable y = Check.set(new AskedTable(), question, "abc");
                Check.set(y, !question, "abcdef");
                s.due("cut(" + n + ")", y.cut(question, n), false);
                s.due("it stays", Check.hasLength(y, question, 3), true);
                s.due("the other stays", Check.hasLength(y, !question, 6), true);
            }
            s.due("cut(0) of none", new AskedTable().cut(question, 0), true);
            s.due("cut(1) of none", new AskedTable().cut(question, 1), false);
            AskedTable y = Check.set(new AskedTable(), question, "abc");
            y.cut(question, 1);
            s.due("what was cut off is gone", y.cut(question, 2), false);
        }
    }

    private static void load(Sentence s, String text, Object want) {
        s.due("load of " + text, Check.load(text), want);
    }

    private void load() {
        doc.passOver("Promise 4", "`int load() throws IllegalArgumentException, IllegalStateException, NoSuchElementException, UnsupportedOperationException`:");
        Sentence s = doc.promise(4, "Reads the text as the table: how many rows.");
        load(s, "a", 0);
        load(s, "a\n1", 1);
        load(s, "a" + "\n1".repeat(16), 16);
        AskedTable x = Check.loaded("a,b,c\n1,2,3\n4,5,6\n");
        s.due("a smaller one after it", Check.load(x, "z\n9\n"), 1);
        s.due("nothing is left", Check.written(x, false), "z\n9\n");
        s.due("no cell of it", () -> x.value(1, 0), OUTSIDE);
        s.due("no column of it", () -> x.type(1), OUTSIDE);
        s.due("a larger one again", Check.load(x, "a,b,c\n1,2,3\nx,5,6\n"), 2);
        s.due("with its types", "" + x.type(0) + x.type(1) + x.type(2), "300");
        s = doc.promise(4, "The answer goes (when it throws, table and answer stay).");
        for (String question : new String[] {"rows", "count by a", "least(b)"}) {
            AskedTable y = Check.loaded("a,b\n1,x\n2,y\n");
            Check.ask(y, question);
            y.write(true);
            String seen = Check.seen(y);
            for (String wrong : new String[] {"\"", "b\n1,2\n", "by\n1\n", "b" + "\n3".repeat(17)}) {
                s.due("it throws", Check.load(y, wrong).startsWith("throws."), true);
                s.due("table and answer stay", Check.seen(y), seen);
                s.due("the answer is written as before", Check.written(y, true), Check.writtenAnswer(Check.loaded("a,b\n1,x\n2,y\n"), question));
            }
            s.due("the same text again", Check.load(y, "a,b\n1,x\n2,y\n"), 2);
            s.due("the answer goes", y.lines(), -1);
            s.due("it is not written", () -> y.write(true), STATE);
        }
    }

    /** What a text is does not depend on those that were read before it. */
    private void loadAgain() {
        Sentence s = doc.promise(4, "Reads the text as the table: how many rows.");
        String[] texts = {"", "a", "a\n1\n", "b\nx\n", "a,b,c,d,e,f\n,,,,,\n1,2147483648,2020-01-01,x,\"\",\"1\"\n",
            "a" + "\n5".repeat(16), "a\n" + "x".repeat(238), "\"", "a\"", "a,b,\"", "a,b\n1,2\n3,4,\"", "a,b\n1,2\r",
            "a,b\n\"1\",\"2\" ", "a,b\n1", "a\n1,2\n", ",,,,,,", ",".repeat(240), "by", "a,a", "a" + "\n5".repeat(17),
            "a" + "\n".repeat(239), "\"" + "x".repeat(239)};
        for (String first : texts) {
            for (String second : texts) {
                boolean stays = Check.load(second).startsWith("throws.");
                AskedTable used = new AskedTable();
                Check.load(used, first);
                AskedTable fresh = new AskedTable();
                Check.load(fresh, stays ? first : second);
                s.due(second + " behind " + first, Check.load(used, second), Check.load(second));
                s.due("what is seen then", Check.seen(used), Check.seen(fresh));
                s.due("what is written then", Check.told(() -> Check.written(used, false)), Check.told(() -> Check.written(fresh, false)));
            }
        }
    }

    private void loadOfWrongMarks() {
        Sentence s = doc.promise(4, "IllegalArgumentException when a quoted field is not ended,");
        for (String text : new String[] {"\"", "\"a", "a\n\"", "a\n\"x", "a\n\"x\n", "a\n\"x\"\"", "a\n\"x\"\"\n", "a\n\"\"\"", "a,b\n1,\"", "a\n\"x\r\n"}) {
            load(s, text, MARKS);
        }
        s = doc.promise(4, "or a quotation mark stands where none may,");
        for (String text : new String[] {"a\"", "a\"b", "a\"\"", "a\nx\"", "a\nx\"\"", "a\nx\"y\"", "a\n \"\"", "a,b\n1,x\"y\"\n", "a\n1\"\n"}) {
            load(s, text, MARKS);
        }
        s = doc.promise(4, "or a 13 without 10 behind it outside of quoted fields,");
        for (String text : new String[] {"\r", "a\r", "a\r\r\n", "a\rb\n", "a\r,b\n", "a\r\"b\"", "a\n\r", "a\n1\r", "a\n1\r2\n",
            "a\n\"x\"\r", "a\n\"x\"\ry\n", "a\r\n\r\r\n"}) {
            load(s, text, MARKS);
        }
        load(s, "a\n\"\r\"\n", 1);
        load(s, "a\n\"\r\r\n\r\"", 1);
        load(s, "a\n\"x\"\r\n", 1);
        load(s, "a\r\n\r\n", 1);
        s = doc.promise(4, "or behind a quoted field there is something else than a comma or the record's end;");
        for (char c = 32; c <= 126; c++) {
            if (c != ',') {
                load(s, "a\n\"x\"" + c + "\n", MARKS);
                load(s, "\"a\"" + c, MARKS);
                load(s, "a\n\"\"\"\"" + c + (c == '"' ? "" : "\n"), MARKS);
            }
        }
        load(s, "a,b\n\"x\",\"y\"\n", 1);
        load(s, "a,b\n\"x\",", 1);
        load(s, "\"a\"\r\n\"x\"\n\"y\"", 2);
    }

    private void loadOfOtherWrongs() {
        Sentence s = doc.promise(4, "IllegalStateException when records have not as many fields,");
        for (String text : new String[] {"a\n,\n", "a,b\n1\n", "a,b\n\n", "a,b\n1,2\n1,2,3", "a,b\n1,2\n1", "a\n1\n1\n1,2\n",
            "a,b\n\"1,2\"\n", "\n,", "a\n1" + "\n1".repeat(15) + ",2"}) {
            load(s, text, UNEVEN);
        }
        s = doc.promise(4, "or more than six;");
        load(s, "a,b,c,d,e,f", 0);
        load(s, "a,b,c,d,e,f,g", UNEVEN);
        load(s, ",".repeat(240), UNEVEN);
        load(s, "a,b,c,d,e,f,g\n1,2,3,4,5,6,7\n", UNEVEN);
        load(s, "a,b,c,d,e,f\n1,2,3,4,5,6,7\n", UNEVEN);
        load(s, ",,,,,\n", NAMES);
        load(s, ",,,,,,\n", UNEVEN);
        s = doc.promise(4, "NoSuchElementException when there is no header,");
        load(s, "", NAMES);
        s = doc.promise(4, "or a name is none,");
        for (String text : new String[] {"\n", "\r\n", "\"\"", "\"\"\n", " ", "A", "a b", "a1", "1", "abcdefg", "a,", ",a", "a,b,\"\"",
            "by", "\"null\"", "\"a\"\"\"", "\"a\n\"", "\" a\""}) {
            load(s, text, NAMES);
        }
        s = doc.promise(4, "or there twice;");
        for (String text : new String[] {"a,a", "a,\"a\"", "a,b,a", "a,b,c,d,e,a", "a,b,c,d,e,e", "abcdef,abcdef", "rows,rows\n1,2\n"}) {
            load(s, text, NAMES);
        }
        s = doc.promise(4, "UnsupportedOperationException when there are more than 16 rows.");
        load(s, "a" + "\n1".repeat(16), 16);
        load(s, "a" + "\n1".repeat(16) + "\n", 16);
        load(s, "a" + "\n1".repeat(16) + "\n\n", ROWS);
        load(s, "a" + "\n1".repeat(17), ROWS);
        load(s, "a" + "\n".repeat(239), ROWS);
        load(s, "a,b,c,d,e,f" + "\n,,,,,".repeat(16), 16);
        load(s, "a,b,c,d,e,f" + "\n,,,,,".repeat(17), ROWS);
        s = doc.promise(4, "(All of the text is looked at for the first kind before the second one, and so on.)");
        String many = "\n1".repeat(17);
        load(s, "a,b\n1\nx\"", MARKS);
        load(s, "by\nx\"", MARKS);
        load(s, "a" + many + "\n\"", MARKS);
        load(s, "a,b,c,d,e,f,g\n\r", MARKS);
        load(s, "by,by\n1\n", UNEVEN);
        load(s, "by" + many + "\n1,2", UNEVEN);
        load(s, "a" + many + "\n1,2", UNEVEN);
        load(s, "by" + many, NAMES);
        load(s, "\n".repeat(18), NAMES);
    }

    private void columns() {
        doc.passOver("Promise 5", "`int columns()`:");
        Sentence s = doc.promise(5, "How many columns the table has (0 if there is none).");
        AskedTable x = new AskedTable();
        s.due("none", x.columns(), 0);
        Check.load(x, "a,a");
        s.due("after a load that throws", x.columns(), 0);
        for (int n : new int[] {6, 5, 4, 3, 2, 1, 6}) {
            Check.load(x, "a,b,c,d,e,f".substring(0, 2 * n - 1));
            s.due("of " + n, x.columns(), n);
        }
        Check.load(x, "a,b,c,d,e,f,g");
        s.due("after one of seven", x.columns(), 6);
    }

    private void type() {
        doc.passOver("Promise 6", "`int type(int column) throws IndexOutOfBoundsException`:");
        Sentence s = doc.promise(6, "The type of a column (0 the first).");
        AskedTable x = Check.loaded("a,b,c,d,e,f\n1,2147483648,2020-01-01,x,,\"\"\n");
        int[] types = {0, 1, 2, 3, 0, 3};
        for (int c = 0; c < 6; c++) {
            s.due("type(" + c + ")", x.type(c), types[c]);
        }
        s = doc.promise(6, "IndexOutOfBoundsException when there is none.");
        for (int wide = 0; wide <= 6; wide++) {
            AskedTable y = wide == 0 ? new AskedTable() : Check.loaded("a,b,c,d,e,f".substring(0, 2 * wide - 1));
            for (int c = -2; c <= 8; c++) {
                int column = c;
                s.due("type(" + c + ") of " + wide, () -> y.type(column), c >= 0 && c < wide ? 0 : OUTSIDE);
            }
            for (int c : FAR) {
                s.due("type(" + c + ") of " + wide, () -> y.type(c), OUTSIDE);
            }
        }
    }

    private void isMissing() {
        doc.passOver("Promise 7", "`boolean isMissing(int row, int column) throws IndexOutOfBoundsException`:");
        Sentence s = doc.promise(7, "Whether a cell is missing.");
        AskedTable x = Check.loaded("a,b\n,\"\"\n0,\n\"\", \n");
        s.due("plain without characters, first", x.isMissing(0, 0), true);
        s.due("quoted without characters, last", x.isMissing(0, 1), false);
        s.due("0", x.isMissing(1, 0), false);
        s.due("plain without characters, last", x.isMissing(1, 1), true);
        s.due("quoted without characters, first", x.isMissing(2, 0), false);
        s.due("a space", x.isMissing(2, 1), false);
        s = doc.promise(7, "IndexOutOfBoundsException when there is none.");
        for (int c = -1; c <= 2; c++) {
            for (int r = -1; r <= 3; r++) {
                int row = r;
                int column = c;
                boolean there = r >= 0 && r < 3 && c >= 0 && c < 2;
                s.due("of " + r + ", " + c, Check.told(() -> x.isMissing(row, column)).equals(OUTSIDE), !there);
            }
        }
        for (int far : FAR) {
            s.due("row " + far, () -> x.isMissing(far, 0), OUTSIDE);
            s.due("column " + far, () -> x.isMissing(0, far), OUTSIDE);
        }
        s.due("without rows", () -> Check.loaded("a").isMissing(0, 0), OUTSIDE);
        s.due("without a table", () -> new AskedTable().isMissing(0, 0), OUTSIDE);
        AskedTable full = Check.loaded("a,b,c,d,e,f" + "\n,,,,,".repeat(16));
        s.due("the last cell of the largest", () -> full.isMissing(15, 5), true);
        s.due("one row more", () -> full.isMissing(16, 0), OUTSIDE);
        s.due("one column more", () -> full.isMissing(0, 6), OUTSIDE);
    }

    private void value() {
        doc.passOver("Promise 8", "`long value(int row, int column) throws IndexOutOfBoundsException, IllegalStateException, NoSuchElementException`:");
        Sentence s = doc.promise(8, "The value of a cell.");
        AskedTable x = Check.loaded("a,b,c,t\n0,-9223372036854775808,0001-01-01,5\n-2147483648,9223372036854775807,9999-12-31,\n,,,x\n");
        String[][] values = {{"0", "-9223372036854775808", "10101", STATE}, {"-2147483648", "9223372036854775807", "99991231", STATE},
            {LACKING, LACKING, LACKING, STATE}};
        for (int r = 0; r < 3; r++) {
            for (int c = 0; c < 4; c++) {
                int row = r;
                int column = c;
                s.due("value(" + r + ", " + c + ")", () -> x.value(row, column), values[r][c]);
            }
        }
        s = doc.promise(8, "IndexOutOfBoundsException when there is none;");
        for (int far : FAR) {
            s.due("row " + far, () -> x.value(far, 0), OUTSIDE);
            s.due("row " + far + " of texts", () -> x.value(far, 3), OUTSIDE);
            s.due("column " + far, () -> x.value(0, far), OUTSIDE);
        }
        s.due("one row more", () -> x.value(3, 0), OUTSIDE);
        s.due("one column more", () -> x.value(0, 4), OUTSIDE);
        s.due("without rows", () -> Check.loaded("a").value(0, 0), OUTSIDE);
        s.due("without a table", () -> new AskedTable().value(0, 0), OUTSIDE);
        s = doc.promise(8, "IllegalStateException when the column's type is 3;");
        s.due("a number among texts", () -> x.value(0, 3), STATE);
        s.due("missing among texts", () -> x.value(1, 3), STATE);
        s.due("a quoted number", () -> Check.loaded("a\n\"5\"").value(0, 0), STATE);
        s.due("a quoted date", () -> Check.loaded("a\n\"2020-01-01\"").value(0, 0), STATE);
        s.due("a number beyond the longs", () -> Check.loaded("a\n9223372036854775808").value(0, 0), STATE);
        s = doc.promise(8, "NoSuchElementException when it is missing.");
        s.due("in a column without values", () -> Check.loaded("a\n\n").value(0, 0), LACKING);
        s.due("among ints", () -> x.value(2, 0), LACKING);
        s.due("among longs", () -> x.value(2, 1), LACKING);
        s.due("among dates", () -> x.value(2, 2), LACKING);
    }
}
