/** Promise 7: isMissing. */
public final class Promise07IsMissingTest {
    public static void main(String[] args) {
        Check check = new Check();
        check.due("no table", () -> new AskedTable().isMissing(0, 0), "throws.IndexOutOfBoundsException");
        AskedTable x = Check.loaded("a,b,c\n,1,x\n2,,\n\"\",\" \",\"\"\"\"\n");
        boolean[][] want = {{true, false, false}, {false, true, true}, {false, false, false}};
        for (int r = 0; r < 3; r++) {
            for (int c = 0; c < 3; c++) {
                check.due("isMissing(" + r + ", " + c + ")", x.isMissing(r, c), want[r][c]);
            }
        }
        int[][] none = {{-1, 0}, {3, 0}, {0, -1}, {0, 3}, {3, 3}, {-1, 3}, {16, 0}, {0, 6},
            {Integer.MAX_VALUE, 0}, {Integer.MIN_VALUE, 0}, {0, Integer.MAX_VALUE}, {0, Integer.MIN_VALUE}};
        for (int[] cell : none) {
            check.due("isMissing(" + cell[0] + ", " + cell[1] + ")", () -> x.isMissing(cell[0], cell[1]),
                    "throws.IndexOutOfBoundsException");
        }
        check.due("a table without rows", () -> Check.loaded("a").isMissing(0, 0), "throws.IndexOutOfBoundsException");
        Check.load(x, "a\n1\n");
        check.due("another table", x.isMissing(0, 0), false);
        check.due("with fewer rows", () -> x.isMissing(1, 0), "throws.IndexOutOfBoundsException");
        check.end();
    }
}
