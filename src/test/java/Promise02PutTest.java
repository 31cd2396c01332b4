/** Promise 2: put. */
public final class Promise02PutTest {
    private static final Check CHECK = new Check();

    public static void main(String[] args) {
        counts();
        characters();
        rooms(false, 240);
        rooms(true, 96);
        staysWhatIsRead();
        CHECK.end();
    }

    private static void counts() {
        for (int n : new int[] {Integer.MIN_VALUE, -1, 0, 9, 10, 64, Integer.MAX_VALUE}) {
            AskedTable x = new AskedTable();
            CHECK.due("put of " + n, x.put(false, Check.packed("aaaaaaaa"), n), false);
            CHECK.due("put of " + n + " changed nothing", x.cut(false, 1), false);
        }
        for (int n = 1; n <= 8; n++) {
            AskedTable x = new AskedTable();
            CHECK.due("put of " + n, x.put(true, Check.packed("aaaaaaaa"), n), true);
            CHECK.due("so many came", x.cut(true, n), true);
            CHECK.due("no more came", x.cut(true, n + 1), false);
        }
        AskedTable x = new AskedTable();
        CHECK.due("bytes beyond n do not count", x.put(false, 0xFFFFFFFFFFFFFF00L | 'a', 1), true);
        CHECK.due("the lowest byte comes first", Check.written(Check.loaded("ab,c\n"), false), "ab,c\n");
    }

    private static void characters() {
        for (int c = 0; c < 256; c++) {
            boolean printed = c >= 32 && c <= 126;
            for (int place = 0; place < 8; place++) {
                long w = Check.packed("aaaaaaaa") & ~(255L << (8 * place)) | (long) c << (8 * place);
                AskedTable x = new AskedTable();
                CHECK.due("text with " + c + " at " + place, x.put(false, w, 8), printed || c == 10 || c == 13);
                CHECK.due("question with " + c + " at " + place, x.put(true, w, 8), printed);
                CHECK.due("refused or taken whole", x.cut(true, 1), printed);
            }
        }
    }

    private static void rooms(boolean question, int room) {
        AskedTable x = new AskedTable();
        for (int i = 0; i + 8 <= room; i += 8) {
            CHECK.due("put at " + i, x.put(question, Check.packed("abcdefgh"), 8), true);
        }
        CHECK.due("one more than there is room", x.put(question, 'a', 1), false);
        CHECK.due("it is full", x.cut(question, room), true);
        CHECK.due("and not beyond", x.cut(question, room + 1), false);
        x.cut(question, room - 3);
        CHECK.due("four into three", x.put(question, Check.packed("abcd"), 4), false);
        CHECK.due("three into three", x.put(question, Check.packed("abc"), 3), true);
        CHECK.due("the other is empty still", x.cut(!question, 1), false);
    }

    private static void staysWhatIsRead() {
        AskedTable x = Check.loaded("a\n1\n");
        CHECK.due("put behind what was loaded", x.put(false, Check.packed("2\n"), 2), true);
        CHECK.due("the table is as it was", Check.written(x, false), "a\n1\n");
        CHECK.due("loaded again", Check.told(x::load), 2);
        CHECK.due("the text is still there", Check.written(x, false), "a\n1\n2\n");
        CHECK.due("asked", Check.ask(x, "rows"), 2);
        x.put(true, Check.packed(" order a"), 8);
        CHECK.due("the question goes on", Check.told(x::ask), 2);
        x.put(true, Check.packed(" desc"), 5);
        CHECK.due("and on", Check.told(x::ask), 2);
        CHECK.due("in falling order", x.line(0), 1);
    }
}
