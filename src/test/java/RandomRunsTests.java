import java.util.Random;

/** Runs of 512 calls, the same ones always, each answer compared with Plain's. */
public final class RandomRunsTests {
    private static final int RUNS = 1500;
    private static final int[] ODD = {-1, -2, 999, Integer.MAX_VALUE, Integer.MIN_VALUE};

    private final Random random;
    private final TableSetter x = new TableSetter();
    private final Plain y = new Plain();
    private final StringBuilder told = new StringBuilder();
    private final int[] mostlyRows;
    private int steps = 0;

    private RandomRunsTests(int seed) {
        random = new Random(seed);
        mostlyRows = new int[] {1, 1, 1, seed % 2 + 1, seed % 4 + 1};
    }

    private int some(int least, int most) {
        if (random.nextInt(60) == 0) {
            return ODD[random.nextInt(ODD.length)];
        }
        if (random.nextInt(40) == 0) {
            return random.nextBoolean() ? least - 1 : most + 1;
        }
        return least + random.nextInt(most - least + 1);
    }

    private int aCell() {
        return some(0, Math.max(0, y.cells.size() - 1));
    }

    private int aRow() {
        return some(0, y.rCount - 1);
    }

    private int aColumn() {
        return some(0, y.cCount - 1);
    }

    private int aTotal() {
        int least = (y.cCount - 1) * y.gap;
        for (int c = 0; c < y.cCount; c++) {
            least += y.natural(c, 0);
        }
        return random.nextInt(4) == 0 ? some(0, 400) : least + random.nextInt(random.nextInt(3) == 0 ? 60 : 9) - 1;
    }

    private int anExtent(int left) {
        int n = mostlyRows[random.nextInt(mostlyRows.length)];
        return random.nextInt(12) == 0 ? some(1, 6) : Math.min(n, Math.max(1, left));
    }

    private boolean same(String call, long got, long want) {
        Due.due(call, got, want);
        if (got != want) {
            System.out.println(told.append(" .. ").append(call));
        }
        told.append(' ').append(call).append(" = ").append(got).append(';');
        return got == want;
    }

    private boolean aTable() {
        int r = random.nextInt(3) == 0 ? some(1, 16) : 8 + random.nextInt(9);
        int c = random.nextInt(3) == 0 ? some(1, 6) : 1 + random.nextInt(4);
        int g = some(0, 3);
        return same("table(" + r + ", " + c + ", " + g + ")", x.table(r, c, g), y.table(r, c, g));
    }

    private boolean aNewCell() {
        int row = aRow();
        int column = aColumn();
        for (int i = 0; i < 4 && y.on(row, column) >= 0; i++) {
            row = aRow();
            column = aColumn();
        }
        int kind = row < 3 && random.nextBoolean() ? 1 : some(0, 3);
        int rows = anExtent(y.rCount - row);
        int cols = anExtent(y.cCount - column);
        String call = "cell(" + kind + ", " + row + ", " + column + ", " + rows + ", " + cols + ")";
        return same(call, x.cell(kind, row, column, rows, cols), y.cell(kind, row, column, rows, cols));
    }

    private boolean someText() {
        int cell = aCell();
        int pieces = cell >= 0 && cell < y.cells.size() ? y.cells.get(cell).pieces.size() : 0;
        if (random.nextInt(pieces == 0 ? 2 : 8) == 0) {
            int n = some(0, random.nextInt(4) == 0 ? 12 : 5);
            return same("words(" + cell + ", " + n + ")", x.words(cell, n), y.words(cell, n));
        }
        if (random.nextInt(8) == 0) {
            int i = some(0, 4);
            int other = aCell();
            int j = some(0, 4);
            int n = some(0, 4);
            String call = "copy(" + cell + ", " + i + ", " + other + ", " + j + ", " + n + ")";
            return same(call, x.copy(cell, i, other, j, n), y.copy(cell, i, other, j, n));
        }
        int i = random.nextInt(10) == 0 ? some(0, 11) : some(0, Math.max(0, pieces - 1));
        int n = some(1, random.nextInt(3) == 0 ? 20 : 7);
        return same("word(" + cell + ", " + i + ", " + n + ")", x.word(cell, i, n), y.word(cell, i, n));
    }

    private boolean aChange() {
        int cell = aCell();
        switch (random.nextInt(6)) {
            case 0: {
                int column = aColumn();
                int w = some(1, 9);
                return same("weight(" + column + ", " + w + ")", x.weight(column, w), y.weight(column, w));
            }
            case 1: {
                int k = some(0, 9);
                int h = some(1, 6);
                return same("note(" + k + ", " + h + ")", x.note(k, h), y.note(k, h));
            }
            case 2: {
                int w = some(1, random.nextInt(3) == 0 ? 60 : 12);
                return same("fix(" + cell + ", " + w + ")", x.fix(cell, w), y.fix(cell, w));
            }
            case 3:
                if (random.nextInt(3) != 0) {
                    return true;
                }
                return same("drop(" + cell + ")", x.drop(cell), y.drop(cell));
            default: {
                int bits = random.nextInt(4) == 0 ? some(0, 1023) : 1 << random.nextInt(10);
                return same("calls(" + cell + ", " + bits + ")", x.calls(cell, bits), y.calls(cell, bits));
            }
        }
    }

    private boolean someWidths() {
        int t = aTotal();
        if (random.nextInt(3) != 0) {
            return same("set(" + t + ")", x.set(t), y.set(t));
        }
        int n = random.nextInt(3) == 0 ? some(1, 20000) : 1 + random.nextInt(1500);
        return same("tight(" + t + ", " + n + ")", x.tight(t, n), y.tight(t, n));
    }

    private boolean somePages() {
        int h = random.nextInt(4) == 0 ? some(1, 200) : 2 + random.nextInt(y.count(6) + 4);
        return same("pages(" + h + ")", x.pages(h), y.pages(h)) && allPages();
    }

    private boolean allPages() {
        boolean fine = true;
        for (int p = -1; p <= y.pages.size(); p++) {
            for (int what = -1; what <= 4; what++) {
                fine &= same("page(" + p + ", " + what + ")", x.page(p, what), y.page(p, what));
            }
        }
        return fine && allRows();
    }

    private boolean allRows() {
        boolean fine = true;
        for (int row = -1; row <= y.rCount; row++) {
            fine &= same("pageOf(" + row + ")", x.pageOf(row), y.pageOf(row));
            fine &= same("mayBreak(" + row + ")", x.mayBreak(row), y.mayBreak(row));
            fine &= same("height(" + row + ")", x.height(row), y.height(row));
        }
        return fine;
    }

    private boolean aQuestion() {
        int cell = aCell();
        switch (random.nextInt(6)) {
            case 0: {
                int what = some(0, 6);
                return same("told(" + cell + ", " + what + ")", x.told(cell, what), y.told(cell, what));
            }
            case 1: {
                int kind = some(0, 3);
                return same("is(" + cell + ", " + kind + ")", x.is(cell, kind), y.is(cell, kind));
            }
            case 2: {
                int row = aRow();
                int column = aColumn();
                return same("on(" + row + ", " + column + ")", x.on(row, column), y.on(row, column));
            }
            case 3:
                return same("mean(" + cell + ")", x.mean(cell), y.mean(cell));
            case 4: {
                int w = some(1, random.nextInt(3) == 0 ? 400 : 30);
                return same("lines(" + cell + ", " + w + ")", x.lines(cell, w), y.lines(cell, w));
            }
            default: {
                int what = some(0, 1);
                return same("want(" + cell + ", " + what + ")", x.want(cell, what), y.want(cell, what));
            }
        }
    }

    private boolean allTold() {
        boolean fine = true;
        for (int c = -1; c <= y.cCount; c++) {
            fine &= same("width(" + c + ")", x.width(c), y.width(c));
            fine &= same("natural(" + c + ", 0)", x.natural(c, 0), y.natural(c, 0));
            fine &= same("natural(" + c + ", 1)", x.natural(c, 1), y.natural(c, 1));
        }
        for (int what = -1; what <= 7; what++) {
            fine &= same("count(" + what + ")", x.count(what), y.count(what));
            fine &= same("findings(" + what + ")", x.findings(what), y.findings(what));
        }
        return fine;
    }

    /** Text in every cell at once, so that the rows differ in height. */
    private boolean textInAll() {
        boolean fine = true;
        for (int cell = 0; cell < y.cells.size() && fine; cell++) {
            int n = random.nextInt(6);
            fine = same("words(" + cell + ", " + n + ")", x.words(cell, n), y.words(cell, n));
            for (int i = 0; i < n && fine; i++) {
                int w = 1 + random.nextInt(9);
                fine = same("word(" + cell + ", " + i + ", " + w + ")", x.word(cell, i, w), y.word(cell, i, w));
            }
        }
        return fine && someWidths();
    }

    private boolean standing() {
        return same("digest()", x.digest(), y.digest()) && same("finding()", x.finding(), y.finding)
            && same("clash()", x.clash(), y.clash) && same("tries()", x.tries(), y.tries);
    }

    private boolean step() {
        int dice = random.nextInt(100);
        boolean fine;
        if (dice < 1 || steps < 2) {
            fine = aTable();
        } else if (dice < 22 || steps < mostlyRows[3] * 12) {
            fine = aNewCell();
        } else if (steps == mostlyRows[3] * 12) {
            fine = textInAll();
        } else if (dice < 55) {
            fine = someText();
        } else if (dice < 65) {
            fine = aChange();
        } else if (dice < 80) {
            fine = someWidths();
        } else if (dice < 86) {
            fine = somePages();
        } else if (dice < 95) {
            fine = aQuestion();
        } else {
            fine = allTold();
        }
        steps++;
        return fine && standing();
    }

    public static void main(String[] args) {
        for (int seed = 0; seed < RUNS; seed++) {
            RandomRunsTests run = new RandomRunsTests(seed);
            boolean fine = true;
            // Each step asks some 5 to 60 calls: a hundred steps stay near what an object is used for.
            for (int i = 0; i < 90 && fine; i++) {
                fine = run.step();
            }
            if (!fine) {
                System.out.println("run " + seed + " stopped at its first wrong answer");
                break;
            }
        }
        Due.end();
    }
}
