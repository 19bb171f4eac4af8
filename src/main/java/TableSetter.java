import java.util.Arrays;

/** A setter of tables: cells, widths, heights and pages, as ../shared/DOC.md promises them. */
public final class TableSetter {
    public static final int BAD = -1, FULL = -2, FINDING = -3, STATE = -4, SPENT = -6, NONE = -9;

    private static final int NOTHING = 1, BEYOND = 2, UNLIKE = 3, NOUGHT = 4, SIZE = 5, CLASH = 6;
    private static final int HEAD = 1, FIXED = 2, LOOSE = 3;
    private static final int LEAST = 0, BEST = 1;

    private static final int MOST_ROWS = 16, MOST_COLUMNS = 6, WIDEST_GAP = 3, HEAVIEST = 9;
    private static final int MOST_CELLS = 40, MOST_PIECES = 12, LONGEST_PIECE = 20, WIDEST_FIXED = 60;
    private static final int MOST_NOTES = 10, LONGEST_NOTE = 6, ALL_NOTES = 1023;
    private static final int WIDEST = 400, MOST_TRIES = 20000, LONGEST_PAGE = 200;

    private final Grid grid = new Grid();
    private final Heights heights = new Heights(grid);
    private final Widths widths = new Widths(grid, heights);
    private final Pager pager = new Pager(grid, heights);
    private final int[] findingCounts = new int[CLASH + 1];
    private int latestFinding = 0;
    private int latestClash = NONE;
    private int latestTries = 0;

    public TableSetter() {
    }

    // ---- 1 the table, cells

    public int table(int r, int c, int g) {
        if (!isWithin(r, 1, MOST_ROWS) || !isWithin(c, 1, MOST_COLUMNS) || !isWithin(g, 0, WIDEST_GAP)) {
            return BAD;
        }
        grid.begin(r, c, g);
        widths.forget();
        pager.forget();
        latestClash = NONE;
        return r * c;
    }

    public int weight(int column, int w) {
        if (!isWithin(column, 0, grid.columns - 1) || !isWithin(w, 1, HEAVIEST)) {
            return BAD;
        }
        int before = grid.weights[column];
        grid.weights[column] = w;
        return before;
    }

    public int note(int k, int h) {
        if (!isWithin(k, 0, MOST_NOTES - 1) || !isWithin(h, 1, LONGEST_NOTE)) {
            return BAD;
        }
        int before = grid.noteLines[k];
        grid.noteLines[k] = h;
        return before;
    }

    public int cell(int kind, int row, int column, int rows, int cols) {
        if (!isWithin(kind, 0, LOOSE) || !isPlace(row, column) || rows < 1 || cols < 1) {
            return BAD;
        }
        if (grid.ever >= MOST_CELLS) {
            return FULL;
        }
        if (rows > grid.rows - row || cols > grid.columns - column) {
            return tell(BEYOND);
        }
        int other = grid.firstOn(row, column, rows, cols);
        if (other != NONE) {
            latestClash = other;
            return tell(CLASH);
        }
        return grid.add(kind, row, column, rows, cols);
    }

    public int clash() {
        return latestClash;
    }

    public int drop(int cell) {
        Cell it = grid.numbered(cell);
        if (it == null) {
            return BAD;
        }
        if (it.gone) {
            return tell(NOTHING);
        }
        it.gone = true;
        return 1;
    }

    public int told(int cell, int what) {
        Cell it = grid.numbered(cell);
        if (it == null || !isWithin(what, 0, 6)) {
            return BAD;
        }
        if (it.gone) {
            return tell(NOTHING);
        }
        return it.fact(what);
    }

    public int is(int cell, int kind) {
        Cell it = grid.numbered(cell);
        if (it == null || !isWithin(kind, 0, LOOSE)) {
            return BAD;
        }
        if (it.gone) {
            return tell(NOTHING);
        }
        return kind == 0 || it.kind == kind ? 1 : 0;
    }

    public int on(int row, int column) {
        if (!isPlace(row, column)) {
            return BAD;
        }
        return grid.firstOn(row, column, 1, 1);
    }

    public int words(int cell, int n) {
        Cell it = grid.numbered(cell);
        if (it == null || n > MOST_PIECES) {
            return BAD;
        }
        if (it.gone) {
            return tell(NOTHING);
        }
        if (n < 0) {
            return tell(SIZE);
        }
        it.fill(n);
        return n;
    }

    public int word(int cell, int i, int n) {
        Cell it = grid.numbered(cell);
        if (it == null || !isWithin(n, 1, LONGEST_PIECE)) {
            return BAD;
        }
        if (it.gone) {
            return tell(NOTHING);
        }
        if (!it.holds(i, 1)) {
            return tell(BEYOND);
        }
        return it.exchange(i, n);
    }

    public int copy(int cell, int i, int other, int j, int n) {
        Cell from = grid.numbered(cell);
        Cell to = grid.numbered(other);
        if (from == null || to == null) {
            return BAD;
        }
        if (from.gone || to.gone) {
            return tell(NOTHING);
        }
        if (!from.holds(i, n) || !to.holds(j, n)) {
            return tell(BEYOND);
        }
        to.take(from, i, j, n);
        return 1;
    }

    public int mean(int cell) {
        Cell it = grid.numbered(cell);
        if (it == null) {
            return BAD;
        }
        if (it.gone) {
            return tell(NOTHING);
        }
        if (it.pieces < 1) {
            return tell(NOUGHT);
        }
        return it.allLetters() / it.pieces;
    }

    public int calls(int cell, int bits) {
        Cell it = grid.numbered(cell);
        if (it == null || !isWithin(bits, 0, ALL_NOTES)) {
            return BAD;
        }
        if (it.gone) {
            return tell(NOTHING);
        }
        int before = it.called;
        it.called = bits;
        return before;
    }

    public int fix(int cell, int w) {
        Cell it = grid.numbered(cell);
        if (it == null || !isWithin(w, 1, WIDEST_FIXED)) {
            return BAD;
        }
        if (it.gone) {
            return tell(NOTHING);
        }
        if (it.kind != FIXED) {
            return tell(UNLIKE);
        }
        int before = it.fixedWidth;
        it.fixedWidth = w;
        return before;
    }

    public int lines(int cell, int w) {
        Cell it = grid.numbered(cell);
        if (it == null || !isWithin(w, 1, WIDEST)) {
            return BAD;
        }
        if (it.gone) {
            return tell(NOTHING);
        }
        return it.linesIn(w);
    }

    public int want(int cell, int what) {
        Cell it = grid.numbered(cell);
        if (it == null || !isWithin(what, LEAST, BEST)) {
            return BAD;
        }
        if (it.gone) {
            return tell(NOTHING);
        }
        return it.wanted(what);
    }

    // ---- 2 widths

    public int natural(int column, int what) {
        if (!isWithin(column, 0, grid.columns - 1) || !isWithin(what, LEAST, BEST)) {
            return BAD;
        }
        widths.measure();
        return what == LEAST ? widths.least[column] : widths.best[column];
    }

    public int set(int total) {
        if (!isWithin(total, 0, WIDEST)) {
            return BAD;
        }
        widths.measure();
        int spare = widths.spareOf(total);
        if (spare < 0) {
            return STATE;
        }
        widths.spread(spare);
        return heightOfTable();
    }

    public int tight(int total, int n) {
        if (!isWithin(total, 0, WIDEST) || !isWithin(n, 1, MOST_TRIES)) {
            return BAD;
        }
        widths.measure();
        int spare = widths.spareOf(total);
        if (spare < 0) {
            return STATE;
        }
        long ways = widths.waysToSpread(spare);
        if (ways > n) {
            latestTries = n;
            return SPENT;
        }
        latestTries = (int) ways;
        return widths.tighten(spare, latestTries);
    }

    public int tries() {
        return latestTries;
    }

    public int width(int column) {
        if (!isWithin(column, 0, grid.columns - 1)) {
            return BAD;
        }
        return widths.now[column];
    }

    public int height(int row) {
        if (!isWithin(row, 0, grid.rows - 1)) {
            return BAD;
        }
        heightOfTable();
        return heights.now[row];
    }

    // ---- 3 pages

    public int pages(int h) {
        if (!isWithin(h, 1, LONGEST_PAGE)) {
            return BAD;
        }
        heightOfTable();
        return pager.make(h);
    }

    public int page(int p, int what) {
        if (!isWithin(what, 0, Pager.FACTS - 1)) {
            return BAD;
        }
        return isWithin(p, 0, pager.made - 1) ? pager.facts[p][what] : NONE;
    }

    public int pageOf(int row) {
        if (!isWithin(row, 0, grid.rows - 1)) {
            return BAD;
        }
        return pager.holding(row);
    }

    public int mayBreak(int row) {
        if (!isWithin(row, 0, grid.rows - 1)) {
            return BAD;
        }
        return grid.breaksAhead(row, grid.headRows()) ? 1 : 0;
    }

    // ---- 4 what is told

    public int count(int what) {
        switch (what) {
            case 0:
                return grid.rows;
            case 1:
                return grid.columns;
            case 2:
                return grid.ever;
            case 3:
                return grid.presentCells();
            case 4:
                return grid.headRows();
            case 5:
                return pager.made;
            case 6:
                return heightOfTable();
            default:
                return BAD;
        }
    }

    public int finding() {
        return latestFinding;
    }

    public int findings(int f) {
        return isWithin(f, NOTHING, CLASH) ? findingCounts[f] : BAD;
    }

    public long digest() {
        long h = 17;
        h = 31 * h + grid.rows;
        h = 31 * h + grid.columns;
        h = 31 * h + grid.gap;
        h = mixed(h, grid.weights, grid.columns);
        h = mixed(h, widths.now, grid.columns);
        h = mixed(h, grid.noteLines, MOST_NOTES);
        for (int i = 0; i < grid.ever; i++) {
            Cell it = grid.present(i);
            h = it == null ? 31 * h - 1 : mixedCell(h, it);
        }
        h = 31 * h + pager.made;
        for (int p = 0; p < pager.made && p < MOST_ROWS; p++) {
            h = mixed(h, pager.facts[p], Pager.FACTS);
        }
        return h;
    }

    private static long mixed(long before, int[] values, int n) {
        long h = before;
        for (int i = 0; i < n && i < values.length; i++) {
            h = 31 * h + values[i];
        }
        return h;
    }

    private static long mixedCell(long before, Cell it) {
        long h = before;
        for (int what = 0; what <= 6; what++) {
            h = 31 * h + it.fact(what);
        }
        h = mixed(h, it.letters, it.pieces);
        return it.kind == FIXED ? 31 * h + it.fixedWidth : h;
    }

    private static boolean isWithin(int n, int least, int most) {
        return n >= least && n <= most;
    }

    private boolean isPlace(int row, int column) {
        return isWithin(row, 0, grid.rows - 1) && isWithin(column, 0, grid.columns - 1);
    }

    private int tell(int f) {
        latestFinding = f;
        if (f >= 0 && f < findingCounts.length) {
            findingCounts[f]++;
        }
        return FINDING;
    }

    private int heightOfTable() {
        heights.sortCells();
        return heights.measure(widths.now);
    }

    /** A CELL: where it lies, its PIECES and what it CALLS. */
    private static final class Cell {
        // Longer than any text: 12 pieces of 20 letters with 11 blanks are 251.
        private static final int REMEMBERED = 252;
        private static final int UNKNOWN = -1;

        int kind, row, column, rows, cols;
        int called, fixedWidth, pieces;
        boolean gone;
        final int[] letters = new int[MOST_PIECES];
        // tight() asks for the same widths some thousand times.
        private final int[] knownLines = new int[REMEMBERED];

        void begin(int newKind, int newRow, int newColumn, int newRows, int newCols) {
            kind = newKind;
            row = newRow;
            column = newColumn;
            rows = newRows;
            cols = newCols;
            called = 0;
            fixedWidth = 1;
            gone = false;
            fill(0);
        }

        int fact(int what) {
            switch (what) {
                case 0:
                    return kind;
                case 1:
                    return row;
                case 2:
                    return column;
                case 3:
                    return rows;
                case 4:
                    return cols;
                case 5:
                    return pieces;
                default:
                    return called;
            }
        }

        boolean meets(int otherRow, int otherColumn, int otherRows, int otherCols) {
            return otherRow < row + rows && row < otherRow + otherRows
                && otherColumn < column + cols && column < otherColumn + otherCols;
        }

        boolean liesOnRow(int r) {
            return r >= row && r < row + rows;
        }

        void fill(int n) {
            pieces = n;
            Arrays.fill(letters, 1);
            forgetLines();
        }

        /** Whether there are n pieces from i on. */
        boolean holds(int i, int n) {
            return i >= 0 && n >= 0 && n <= pieces && i <= pieces - n;
        }

        int exchange(int i, int n) {
            if (i < 0 || i >= letters.length) {
                return 0;
            }
            int before = letters[i];
            letters[i] = n;
            forgetLines();
            return before;
        }

        /** System.arraycopy takes the pieces as if ahead, also from this cell itself. */
        void take(Cell from, int i, int j, int n) {
            if (from == null || !from.holds(i, n) || !holds(j, n)) {
                return;
            }
            System.arraycopy(from.letters, i, letters, j, n);
            forgetLines();
        }

        int allLetters() {
            int sum = 0;
            for (int i = 0; i < pieces && i < letters.length; i++) {
                sum += letters[i];
            }
            return sum;
        }

        int wanted(int what) {
            if (kind == FIXED) {
                return fixedWidth;
            }
            if (pieces < 1) {
                return 0;
            }
            return what == LEAST ? longestPiece() : allLetters() + pieces - 1;
        }

        private int longestPiece() {
            int longest = 0;
            for (int i = 0; i < pieces && i < letters.length; i++) {
                longest = Math.max(longest, letters[i]);
            }
            return longest;
        }

        int linesIn(int w) {
            int width = Math.max(w, 1);
            if (width >= REMEMBERED) {
                return countLines(width);
            }
            if (knownLines[width] == UNKNOWN) {
                knownLines[width] = countLines(width);
            }
            return knownLines[width];
        }

        private int countLines(int width) {
            if (width < 1) {
                return 0;
            }
            int count = 0;
            int used = 0;
            for (int i = 0; i < pieces && i < letters.length; i++) {
                int n = letters[i];
                if (count > 0 && used + 1 + n <= width) {
                    used += 1 + n;
                } else {
                    int full = (n - 1) / width;
                    count += full + 1;
                    used = n - full * width;
                }
            }
            return count;
        }

        private void forgetLines() {
            Arrays.fill(knownLines, UNKNOWN);
        }
    }

    /** THE TABLE: its size, its CELLS, and the NOTES. */
    private static final class Grid {
        int rows, columns, gap, ever;
        final int[] weights = new int[MOST_COLUMNS];
        final int[] noteLines = new int[MOST_NOTES];
        private final Cell[] cells = new Cell[MOST_CELLS];

        Grid() {
            for (int i = 0; i < MOST_CELLS; i++) {
                cells[i] = new Cell();
            }
            Arrays.fill(noteLines, 1);
            begin(1, 1, 0);
        }

        void begin(int r, int c, int g) {
            rows = r;
            columns = c;
            gap = g;
            ever = 0;
            Arrays.fill(weights, 1);
        }

        /** The cell of a number, gone or not; null where there never was one. */
        Cell numbered(int number) {
            return number >= 0 && number < ever && number < cells.length ? cells[number] : null;
        }

        /** The cell of a number; null where there is none now. */
        Cell present(int number) {
            Cell it = numbered(number);
            return it == null || it.gone ? null : it;
        }

        int add(int kind, int row, int column, int rowCount, int columnCount) {
            if (ever >= cells.length || cells[ever] == null) {
                return FULL;
            }
            cells[ever].begin(kind, row, column, rowCount, columnCount);
            ever++;
            return ever - 1;
        }

        int firstOn(int row, int column, int rowCount, int columnCount) {
            for (int i = 0; i < ever; i++) {
                Cell it = present(i);
                if (it != null && it.meets(row, column, rowCount, columnCount)) {
                    return i;
                }
            }
            return NONE;
        }

        int presentCells() {
            int sum = 0;
            for (int i = 0; i < ever; i++) {
                if (present(i) != null) {
                    sum++;
                }
            }
            return sum;
        }

        int headRows() {
            int row = 0;
            while (row < rows && hasHead(row)) {
                row++;
            }
            return row;
        }

        private boolean hasHead(int row) {
            for (int i = 0; i < ever; i++) {
                Cell it = present(i);
                if (it != null && it.kind == HEAD && it.liesOnRow(row)) {
                    return true;
                }
            }
            return false;
        }

        boolean breaksAhead(int row, int firstBody) {
            if (row <= firstBody) {
                return false;
            }
            for (int i = 0; i < ever; i++) {
                Cell it = present(i);
                if (it != null && it.kind != LOOSE && it.liesOnRow(row) && it.liesOnRow(row - 1)) {
                    return false;
                }
            }
            return true;
        }

        /** The least row on which a cell begins that calls the note; NONE: it is not called. */
        int firstCall(int note) {
            int least = NONE;
            for (int i = 0; i < ever; i++) {
                Cell it = present(i);
                if (it != null && (it.called >> note & 1) == 1 && (least == NONE || it.row < least)) {
                    least = it.row;
                }
            }
            return least;
        }

        int gaps() {
            return (columns - 1) * gap;
        }

        /** What a cell has of these widths, with the gaps between them. */
        int spanOf(Cell it, int[] columnWidths) {
            int end = Math.min(it.column + it.cols, columnWidths.length);
            int sum = (it.cols - 1) * gap;
            for (int c = it.column; c < end; c++) {
                sum += columnWidths[c];
            }
            return sum;
        }
    }

    /** HEIGHTS of ROWS with given WIDTHS. */
    private static final class Heights {
        final int[] now = new int[MOST_ROWS];
        private final Grid grid;
        private final int[] growth = new int[MOST_ROWS];
        private final Cell[] order = new Cell[MOST_CELLS];
        private int ordered = 0;

        Heights(Grid theGrid) {
            grid = theGrid;
        }

        /** Cells on fewer rows come first: sorted once, one walk measures each of many widths. */
        void sortCells() {
            ordered = 0;
            for (int s = 1; s <= grid.rows; s++) {
                for (int i = 0; i < grid.ever; i++) {
                    Cell it = grid.present(i);
                    if (it != null && it.rows == s && it.pieces > 0 && ordered < order.length) {
                        order[ordered] = it;
                        ordered++;
                    }
                }
            }
        }

        /** The height of the table; sortCells() must have seen the cells as they are. */
        int measure(int[] columnWidths) {
            Arrays.fill(now, 1);
            Arrays.fill(growth, 0);
            int s = 1;
            for (int i = 0; i < ordered && i < order.length; i++) {
                Cell it = order[i];
                if (it == null) {
                    continue;
                }
                if (it.rows != s) {
                    grow();
                    s = it.rows;
                }
                noteLack(it, it.linesIn(grid.spanOf(it, columnWidths)));
            }
            grow();
            return sum();
        }

        private void noteLack(Cell it, int lines) {
            int end = Math.min(it.row + it.rows, now.length);
            int lack = lines;
            for (int row = it.row; row < end; row++) {
                lack -= now[row];
            }
            if (end > 0) {
                growth[end - 1] = Math.max(growth[end - 1], lack);
            }
        }

        private void grow() {
            for (int row = 0; row < now.length; row++) {
                now[row] += growth[row];
                growth[row] = 0;
            }
        }

        private int sum() {
            int sum = 0;
            for (int row = 0; row < grid.rows && row < now.length; row++) {
                sum += now[row];
            }
            return sum;
        }
    }

    /** A number SHARED by numbers. */
    private static final class Share {
        final int[] parts = new int[MOST_COLUMNS];
        private final int[] cutOff = new int[MOST_COLUMNS];

        void divide(int n, int[] numbers, int from, int end) {
            Arrays.fill(parts, 0);
            int stop = Math.min(end, Math.min(parts.length, numbers.length));
            int sum = 0;
            for (int i = from; i < stop; i++) {
                sum += numbers[i];
            }
            if (sum < 1 || from < 0) {
                return;
            }
            int left = n;
            for (int i = from; i < stop; i++) {
                parts[i] = n * numbers[i] / sum;
                cutOff[i] = n * numbers[i] % sum;
                left -= parts[i];
            }
            for (int given = 0; given < left && given < MOST_COLUMNS; given++) {
                giveOne(from, stop);
            }
        }

        private void giveOne(int from, int stop) {
            int most = from;
            for (int i = from; i < stop; i++) {
                if (cutOff[i] > cutOff[most]) {
                    most = i;
                }
            }
            parts[most]++;
            cutOff[most] = -1;
        }
    }

    /** WIDTHS of COLUMNS: those that are, and those that the CELLS want. */
    private static final class Widths {
        final int[] now = new int[MOST_COLUMNS];
        final int[] least = new int[MOST_COLUMNS];
        final int[] best = new int[MOST_COLUMNS];
        private final Grid grid;
        private final Heights heights;
        private final Share share = new Share();
        private final int[] growth = new int[MOST_COLUMNS];
        private final int[] more = new int[MOST_COLUMNS];
        private final int[] trial = new int[MOST_COLUMNS];

        Widths(Grid theGrid, Heights theHeights) {
            grid = theGrid;
            heights = theHeights;
        }

        void forget() {
            Arrays.fill(now, 0);
        }

        /** Finds L and B for the cells as they are. */
        void measure() {
            measureFor(LEAST, least);
            measureFor(BEST, best);
            for (int c = 0; c < MOST_COLUMNS; c++) {
                best[c] = Math.max(best[c], least[c]);
            }
        }

        private void measureFor(int what, int[] target) {
            Arrays.fill(target, 0);
            for (int s = 1; s <= grid.columns; s++) {
                Arrays.fill(growth, 0);
                for (int i = 0; i < grid.ever; i++) {
                    Cell it = grid.present(i);
                    if (it != null && it.cols == s) {
                        noteLack(it, it.wanted(what) - grid.spanOf(it, target));
                    }
                }
                addTo(target, growth);
            }
        }

        private void noteLack(Cell it, int lack) {
            if (lack <= 0) {
                return;
            }
            share.divide(lack, grid.weights, it.column, it.column + it.cols);
            for (int c = 0; c < MOST_COLUMNS; c++) {
                growth[c] = Math.max(growth[c], share.parts[c]);
            }
        }

        private void addTo(int[] target, int[] parts) {
            for (int c = 0; c < grid.columns && c < target.length && c < parts.length; c++) {
                target[c] += parts[c];
            }
        }

        /** What a total has above all of L; below 0 where it has less. */
        int spareOf(int total) {
            return total - grid.gaps() - sumOf(least);
        }

        private int sumOf(int[] columnWidths) {
            int sum = 0;
            for (int c = 0; c < grid.columns && c < columnWidths.length; c++) {
                sum += columnWidths[c];
            }
            return sum;
        }

        /** SET to a total that has so much above all of L. */
        void spread(int spare) {
            int aboveBest = spare - (sumOf(best) - sumOf(least));
            if (aboveBest > 0) {
                share.divide(aboveBest, grid.weights, 0, grid.columns);
                System.arraycopy(best, 0, now, 0, MOST_COLUMNS);
            } else {
                for (int c = 0; c < MOST_COLUMNS; c++) {
                    more[c] = best[c] - least[c];
                }
                share.divide(spare, sumOf(more) > 0 ? more : grid.weights, 0, grid.columns);
                System.arraycopy(least, 0, now, 0, MOST_COLUMNS);
            }
            addTo(now, share.parts);
        }

        long waysToSpread(int spare) {
            long ways = 1;
            for (int i = 1; i < grid.columns; i++) {
                ways = ways * (spare + i) / i;
            }
            return ways;
        }

        /** TIGHT: goes through all ways, from the lesser columns on; the height. */
        int tighten(int spare, int ways) {
            System.arraycopy(least, 0, trial, 0, MOST_COLUMNS);
            addToLast(spare);
            heights.sortCells();
            int lowest = 0;
            for (int i = 0; i < ways; i++) {
                int height = heights.measure(trial);
                if (i == 0 || height < lowest) {
                    lowest = height;
                    System.arraycopy(trial, 0, now, 0, MOST_COLUMNS);
                }
                tryNext();
            }
            return lowest;
        }

        /** The last column that has more than L gives all of it: one to the left, the rest to the end. */
        private void tryNext() {
            int giver = Math.min(grid.columns, MOST_COLUMNS) - 1;
            while (giver > 0 && trial[giver] == least[giver]) {
                giver--;
            }
            if (giver < 1) {
                return;
            }
            int spare = trial[giver] - least[giver];
            trial[giver] = least[giver];
            trial[giver - 1]++;
            addToLast(spare - 1);
        }

        private void addToLast(int n) {
            int last = grid.columns - 1;
            if (last >= 0 && last < trial.length) {
                trial[last] += n;
            }
        }
    }

    /** PAGES of the latest pages(). */
    private static final class Pager {
        static final int FACTS = 4;

        int made = 0;
        // Of each page its first row, its rows, EMPTY and its NOTES, as page() tells them.
        final int[][] facts = new int[MOST_ROWS][FACTS];
        private final Grid grid;
        private final Heights heights;
        private final int[] homeNotes = new int[MOST_ROWS];
        private final int[] homeLines = new int[MOST_ROWS];
        // From each row on to the end: the fewest pages (0: no way), their waste, where the first ends.
        private final int[] fewest = new int[MOST_ROWS + 1];
        private final int[] waste = new int[MOST_ROWS + 1];
        private final int[] ends = new int[MOST_ROWS + 1];
        private int room, body, last;

        Pager(Grid theGrid, Heights theHeights) {
            grid = theGrid;
            heights = theHeights;
        }

        void forget() {
            made = 0;
        }

        /** How many pages of h lines are made, with heights as they were measured last; NONE: no way. */
        int make(int h) {
            made = 0;
            body = grid.headRows();
            last = Math.min(grid.rows, MOST_ROWS);
            if (body >= last) {
                return 0;
            }
            room = h;
            for (int row = 0; row < body; row++) {
                room -= heights.now[row];
            }
            findHomes();
            Arrays.fill(fewest, 0);
            Arrays.fill(waste, 0);
            for (int start = last - 1; start >= body; start--) {
                if (start == body || grid.breaksAhead(start, body)) {
                    planFrom(start);
                }
            }
            if (fewest[body] == 0) {
                return NONE;
            }
            layOut();
            return made;
        }

        private void findHomes() {
            Arrays.fill(homeNotes, 0);
            Arrays.fill(homeLines, 0);
            for (int k = 0; k < MOST_NOTES; k++) {
                int call = grid.firstCall(k);
                int home = Math.max(call, body);
                if (call != NONE && home < last) {
                    homeNotes[home] |= 1 << k;
                    homeLines[home] += grid.noteLines[k];
                }
            }
        }

        private void planFrom(int start) {
            int empty = room;
            for (int end = start + 1; end <= last; end++) {
                empty -= heights.now[end - 1] + homeLines[end - 1];
                boolean goesOn = end == last || fewest[end] > 0;
                if (empty >= 0 && goesOn && !isAlone(start, end)) {
                    weigh(start, end, empty);
                }
            }
        }

        private boolean isAlone(int start, int end) {
            return end - start == 1 && heights.now[start] == 1 && last - body > 1;
        }

        /** Later ends come later: among equals the one with more rows on the first page stays. */
        private void weigh(int start, int end, int empty) {
            int count = 1 + fewest[end];
            int squares = end == last ? 0 : waste[end] + empty * empty;
            boolean isFirst = fewest[start] == 0;
            if (isFirst || count < fewest[start] || count == fewest[start] && squares <= waste[start]) {
                fewest[start] = count;
                waste[start] = squares;
                ends[start] = end;
            }
        }

        private void layOut() {
            int start = body;
            while (start < last && made < MOST_ROWS) {
                int end = Math.min(Math.max(ends[start], start + 1), last);
                int[] fact = facts[made];
                fact[0] = start;
                fact[1] = end - start;
                fact[2] = room;
                fact[3] = 0;
                for (int row = start; row < end; row++) {
                    fact[2] -= heights.now[row] + homeLines[row];
                    fact[3] |= homeNotes[row];
                }
                made++;
                start = end;
            }
        }

        int holding(int row) {
            for (int p = 0; p < made && p < MOST_ROWS; p++) {
                if (row < facts[p][0] + facts[p][1]) {
                    return p;
                }
            }
            return NONE;
        }
    }
}
