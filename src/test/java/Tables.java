import java.util.Arrays;

/** What the tests build tables with, and ask them by. */
class Tables {
    static final int NOTHING = 1, BEYOND = 2, UNLIKE = 3, NOUGHT = 4, SIZE = 5, CLASH = 6;
    static final int BAD = -1, FULL = -2, STATE = -4, SPENT = -6, NONE = -9;
    static final int LEAST_INT = Integer.MIN_VALUE, MOST_INT = Integer.MAX_VALUE;

    static void due(String call, long got, long want) {
        Due.due(call, got, want);
    }

    /** A new object with a table. */
    static TableSetter of(int r, int c, int g) {
        TableSetter x = new TableSetter();
        due("table(" + r + ", " + c + ", " + g + ")", x.table(r, c, g), r * c);
        return x;
    }

    /** A cell on one place with pieces of these letters: its number. */
    static int put(TableSetter x, int kind, int row, int column, int... letters) {
        return lay(x, kind, row, column, 1, 1, letters);
    }

    static int lay(TableSetter x, int kind, int row, int column, int rows, int cols, int... letters) {
        int cell = x.cell(kind, row, column, rows, cols);
        due("a cell is made", cell >= 0 ? 1 : 0, 1);
        due("words", x.words(cell, letters.length), letters.length);
        for (int i = 0; i < letters.length; i++) {
            due("word", x.word(cell, i, letters[i]), 1);
        }
        return cell;
    }

    static void widths(String what, TableSetter x, int... want) {
        for (int c = 0; c < want.length; c++) {
            due(what + ": width(" + c + ")", x.width(c), want[c]);
        }
    }

    static void naturals(String text, TableSetter x, int what, int... want) {
        for (int c = 0; c < want.length; c++) {
            due(text + ": natural(" + c + ", " + what + ")", x.natural(c, what), want[c]);
        }
    }

    static void heights(String what, TableSetter x, int... want) {
        int sum = 0;
        for (int r = 0; r < want.length; r++) {
            due(what + ": height(" + r + ")", x.height(r), want[r]);
            sum += want[r];
        }
        due(what + ": count(6)", x.count(6), sum);
    }

    /** The pieces of a cell by their letters; what is asked leaves them as they are due. */
    static void pieces(String what, TableSetter x, int cell, int... want) {
        due(what + ": how many", x.told(cell, 5), want.length);
        for (int i = 0; i < want.length; i++) {
            due(what + ": piece " + i, x.word(cell, i, want[i]), want[i]);
        }
    }

    static void mayBreaks(String what, TableSetter x, int... want) {
        for (int row = 0; row < want.length; row++) {
            due(what + ": mayBreak(" + row + ")", x.mayBreak(row), want[row]);
        }
    }

    /** The pages by their rows: as many as told, one behind the other. */
    static void rowsOnPages(String what, TableSetter x, int first, int... rows) {
        due(what + ": count(5)", x.count(5), rows.length);
        int row = first;
        for (int p = 0; p < rows.length; p++) {
            due(what + ": page(" + p + ", 0)", x.page(p, 0), row);
            due(what + ": page(" + p + ", 1)", x.page(p, 1), rows[p]);
            row += rows[p];
        }
        due(what + ": page(" + rows.length + ", 0)", x.page(rows.length, 0), NONE);
    }

    /** One fact of each page. */
    static void onPages(String text, TableSetter x, int what, int... want) {
        for (int p = 0; p < want.length; p++) {
            due(text + ": page(" + p + ", " + what + ")", x.page(p, what), want[p]);
        }
    }

    /** Rows of told heights, as lines of one letter in a width of 1. */
    static TableSetter rowsOf(int... lines) {
        TableSetter x = of(lines.length, 1, 0);
        for (int row = 0; row < lines.length; row++) {
            int[] letters = new int[lines[row]];
            Arrays.fill(letters, 1);
            put(x, 0, row, 0, letters);
        }
        due("set(1)", x.set(1), Arrays.stream(lines).sum());
        return x;
    }

    /** One cell on one place with pieces of these letters. */
    static TableSetter text(int... letters) {
        TableSetter x = of(1, 1, 0);
        put(x, 0, 0, 0, letters);
        return x;
    }

    /** So many pieces of so many letters each. */
    static int[] alike(int pieces, int letters) {
        int[] all = new int[pieces];
        Arrays.fill(all, letters);
        return all;
    }

    static long mix(long... values) {
        long h = 17;
        for (long v : values) {
            h = 31 * h + v;
        }
        return h;
    }

    /** An object where everything has been used: cells of each kind, one gone (4), one without pieces (5). */
    static TableSetter rich() {
        TableSetter x = new TableSetter();
        x.table(6, 3, 1);
        x.weight(1, 4);
        x.note(2, 3);
        x.cell(1, 0, 0, 1, 3);
        x.cell(0, 1, 0, 1, 1);
        x.cell(2, 1, 1, 1, 1);
        x.cell(3, 2, 0, 2, 1);
        x.cell(0, 5, 2, 1, 1);
        x.cell(0, 4, 0, 1, 2);
        x.words(0, 2);
        x.word(0, 0, 9);
        x.words(1, 3);
        x.word(1, 1, 6);
        x.fix(2, 7);
        x.words(3, 5);
        x.calls(1, 5);
        x.calls(3, 4);
        x.drop(4);
        x.set(16);
        x.pages(9);
        x.tight(16, 2);
        x.cell(0, 0, 0, 2, 2);
        x.cell(0, 1, 0, 1, 1);
        x.mean(5);
        return x;
    }

    /** 40 cells, one on each of 40 places. */
    static TableSetter full() {
        TableSetter x = of(16, 6, 0);
        for (int i = 0; i < 40; i++) {
            due("cell " + i, x.cell(i % 4, i / 6, i % 6, 1, 1), i);
        }
        return x;
    }
}
