import java.util.Arrays;

/** As much of all as there may be: 16 rows, 6 columns, 40 cells of 12 pieces of 20 letters, 512 calls, 20000 tries. */
public final class LargestTests {
    private static final int CALLS = 512;

    private final TableSetter x = new TableSetter();
    private final Plain y = new Plain();
    private int calls = 0;

    private LargestTests() {
    }

    private long same(String call, int... numbers) {
        int number = Calls.numbered(call);
        long got = Calls.on(x, number, numbers);
        calls++;
        Due.due(call + Arrays.toString(numbers), got, Calls.on(y, number, numbers));
        return got;
    }

    private void due(long want, String call, int... numbers) {
        Due.due(call + Arrays.toString(numbers), same(call, numbers), want);
    }

    /** Single cells on rows 0 to 5, four large ones on the others. */
    private void fortyCells(int kind) {
        due(96, "table", 16, 6, 3);
        for (int i = 0; i < 36; i++) {
            due(i, "cell", kind, i / 6, i % 6, 1, 1);
        }
        due(36, "cell", kind, 6, 0, 10, 1);
        due(37, "cell", kind, 6, 1, 10, 2);
        due(38, "cell", kind, 6, 3, 5, 3);
        due(39, "cell", kind, 11, 3, 5, 3);
        due(-2, "cell", kind, 11, 3, 5, 3);
        due(12, "words", 0, 12);
        for (int i = 0; i < 12; i++) {
            due(1, "word", 0, i, 20);
        }
        for (int cell = 1; cell < 40; cell++) {
            due(12, "words", cell, 12);
            due(1, "copy", 0, 0, cell, 0, 12);
        }
    }

    private void widths() {
        for (int column = 0; column < 6; column++) {
            due(20, "natural", column, 0);
            due(251, "natural", column, 1);
        }
        due(-4, "set", 134);
        same("set", 135);
        due(-4, "tight", 134, 20000);
        same("tight", 135, 1);
        due(-6, "tight", 150, 15503);
        same("tight", 150, 15504);
        due(15504, "tries");
        due(-6, "tight", 151, 20000);
        due(20000, "tries");
        same("set", 400);
        due(-6, "tight", 400, 20000);
    }

    private void pages() {
        for (int note = 0; note <= 9; note++) {
            due(1, "note", note, 6);
            due(0, "calls", note * 4, 1 << note);
        }
        for (int h : new int[] {1, 20, 100, 199, 200}) {
            same("pages", h);
            for (int p = 0; p <= 2; p++) {
                for (int what = 0; what <= 3; what++) {
                    same("page", p, what);
                }
            }
        }
        for (int row = 0; row < 16; row++) {
            same("height", row);
            same("pageOf", row);
            same("mayBreak", row);
        }
    }

    private void standing() {
        for (int what = 0; what <= 6; what++) {
            same("count", what);
        }
        same("digest");
        while (calls < CALLS) {
            due(-3, "copy", 0, 1, 39, 0, 12);
        }
        Due.due("findings(2)", x.findings(2), y.findings(2));
        Due.due("digest()", x.digest(), y.digest());
    }

    public static void main(String[] args) {
        for (int kind : new int[] {0, 3}) {
            LargestTests tests = new LargestTests();
            tests.fortyCells(kind);
            tests.widths();
            tests.pages();
            Due.due("no more calls than an object is used for", tests.calls < CALLS ? 1 : 0, 1);
            tests.standing();
        }
        Due.end();
    }
}
