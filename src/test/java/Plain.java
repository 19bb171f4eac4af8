import java.util.ArrayList;
import java.util.Arrays;
import java.util.List;

/** The document once more, in the slowest and plainest way: what TableSetter answers is compared with it. */
final class Plain {
    static final class C {
        int kind, row, col, rows, cols, calls, fix = 1;
        boolean gone;
        List<Integer> pieces = new ArrayList<>();

        int lines(int w) {
            w = Math.max(1, w);
            List<Integer> lines = new ArrayList<>();
            for (int n : pieces) {
                int end = lines.size() - 1;
                if (end >= 0 && lines.get(end) + 1 + n <= w) {
                    lines.set(end, lines.get(end) + 1 + n);
                    continue;
                }
                lines.add(0);
                for (int letter = 0; letter < n; letter++) {
                    if (lines.get(lines.size() - 1) == w) {
                        lines.add(0);
                    }
                    lines.set(lines.size() - 1, lines.get(lines.size() - 1) + 1);
                }
            }
            return lines.size();
        }

        int want(int what) {
            if (kind == 2) {
                return fix;
            }
            if (pieces.isEmpty()) {
                return 0;
            }
            int longest = 0;
            int all = -1;
            for (int n : pieces) {
                longest = Math.max(longest, n);
                all += 1 + n;
            }
            return what == 0 ? longest : all;
        }

        boolean covers(int r, int c) {
            return !gone && r >= row && r < row + rows && c >= col && c < col + cols;
        }

        boolean onRow(int r) {
            return !gone && r >= row && r < row + rows;
        }
    }

    int rCount = 1, cCount = 1, gap = 0, clash = -9, tries = 0, finding = 0;
    int[] weights = {1};
    int[] widths = {0};
    int[] notes = {1, 1, 1, 1, 1, 1, 1, 1, 1, 1};
    int[] found = new int[7];
    List<C> cells = new ArrayList<>();
    List<int[]> pages = new ArrayList<>();
    int pagesHead = 0;

    private int f(int n) {
        finding = n;
        found[n]++;
        return -3;
    }

    private boolean noNumber(int cell) {
        return cell < 0 || cell >= cells.size();
    }

    int table(int r, int c, int g) {
        if (r < 1 || r > 16 || c < 1 || c > 6 || g < 0 || g > 3) {
            return -1;
        }
        rCount = r;
        cCount = c;
        gap = g;
        weights = new int[c];
        Arrays.fill(weights, 1);
        widths = new int[c];
        cells = new ArrayList<>();
        pages = new ArrayList<>();
        clash = -9;
        return r * c;
    }

    int weight(int column, int w) {
        if (column < 0 || column >= cCount || w < 1 || w > 9) {
            return -1;
        }
        int was = weights[column];
        weights[column] = w;
        return was;
    }

    int note(int k, int h) {
        if (k < 0 || k > 9 || h < 1 || h > 6) {
            return -1;
        }
        int was = notes[k];
        notes[k] = h;
        return was;
    }

    int cell(int kind, int row, int column, int rows, int cols) {
        if (kind < 0 || kind > 3 || row < 0 || row >= rCount || column < 0 || column >= cCount || rows < 1 || cols < 1) {
            return -1;
        }
        if (cells.size() == 40) {
            return -2;
        }
        if ((long) row + rows > rCount || (long) column + cols > cCount) {
            return f(2);
        }
        int least = 99;
        for (int r = row; r < row + rows; r++) {
            for (int c = column; c < column + cols; c++) {
                int other = on(r, c);
                if (other >= 0) {
                    least = Math.min(least, other);
                }
            }
        }
        if (least < 99) {
            clash = least;
            return f(6);
        }
        C it = new C();
        it.kind = kind;
        it.row = row;
        it.col = column;
        it.rows = rows;
        it.cols = cols;
        cells.add(it);
        return cells.size() - 1;
    }

    int drop(int cell) {
        if (noNumber(cell)) {
            return -1;
        }
        if (cells.get(cell).gone) {
            return f(1);
        }
        cells.get(cell).gone = true;
        return 1;
    }

    int told(int cell, int what) {
        if (noNumber(cell) || what < 0 || what > 6) {
            return -1;
        }
        C it = cells.get(cell);
        if (it.gone) {
            return f(1);
        }
        return new int[] {it.kind, it.row, it.col, it.rows, it.cols, it.pieces.size(), it.calls}[what];
    }

    int is(int cell, int kind) {
        if (noNumber(cell) || kind < 0 || kind > 3) {
            return -1;
        }
        if (cells.get(cell).gone) {
            return f(1);
        }
        return kind == 0 ? 1 : cells.get(cell).kind == kind ? 1 : 0;
    }

    int on(int row, int column) {
        if (row < 0 || row >= rCount || column < 0 || column >= cCount) {
            return -1;
        }
        for (int i = 0; i < cells.size(); i++) {
            if (cells.get(i).covers(row, column)) {
                return i;
            }
        }
        return -9;
    }

    int words(int cell, int n) {
        if (noNumber(cell) || n > 12) {
            return -1;
        }
        if (cells.get(cell).gone) {
            return f(1);
        }
        if (n < 0) {
            return f(5);
        }
        cells.get(cell).pieces = new ArrayList<>();
        for (int i = 0; i < n; i++) {
            cells.get(cell).pieces.add(1);
        }
        return n;
    }

    int word(int cell, int i, int n) {
        if (noNumber(cell) || n < 1 || n > 20) {
            return -1;
        }
        C it = cells.get(cell);
        if (it.gone) {
            return f(1);
        }
        if (i < 0 || i >= it.pieces.size()) {
            return f(2);
        }
        return it.pieces.set(i, n);
    }

    int copy(int cell, int i, int other, int j, int n) {
        if (noNumber(cell) || noNumber(other)) {
            return -1;
        }
        C a = cells.get(cell);
        C b = cells.get(other);
        if (a.gone || b.gone) {
            return f(1);
        }
        if (i < 0 || j < 0 || n < 0 || (long) i + n > a.pieces.size() || (long) j + n > b.pieces.size()) {
            return f(2);
        }
        List<Integer> ahead = new ArrayList<>(a.pieces.subList(i, i + n));
        for (int k = 0; k < n; k++) {
            b.pieces.set(j + k, ahead.get(k));
        }
        return 1;
    }

    int mean(int cell) {
        if (noNumber(cell)) {
            return -1;
        }
        C it = cells.get(cell);
        if (it.gone) {
            return f(1);
        }
        if (it.pieces.isEmpty()) {
            return f(4);
        }
        int sum = 0;
        for (int n : it.pieces) {
            sum += n;
        }
        return sum / it.pieces.size();
    }

    int calls(int cell, int bits) {
        if (noNumber(cell) || bits < 0 || bits > 1023) {
            return -1;
        }
        C it = cells.get(cell);
        if (it.gone) {
            return f(1);
        }
        int was = it.calls;
        it.calls = bits;
        return was;
    }

    int fix(int cell, int w) {
        if (noNumber(cell) || w < 1 || w > 60) {
            return -1;
        }
        C it = cells.get(cell);
        if (it.gone) {
            return f(1);
        }
        if (it.kind != 2) {
            return f(3);
        }
        int was = it.fix;
        it.fix = w;
        return was;
    }

    int lines(int cell, int w) {
        if (noNumber(cell) || w < 1 || w > 400) {
            return -1;
        }
        return cells.get(cell).gone ? f(1) : cells.get(cell).lines(w);
    }

    int want(int cell, int what) {
        if (noNumber(cell) || what < 0 || what > 1) {
            return -1;
        }
        return cells.get(cell).gone ? f(1) : cells.get(cell).want(what);
    }

    /** One each to the greatest rest, found by sorting: fractions compared as rests of one divisor. */
    static int[] share(int n, int[] by) {
        int sum = Arrays.stream(by).sum();
        int[] parts = new int[by.length];
        List<int[]> rests = new ArrayList<>();
        int left = n;
        for (int i = 0; i < by.length; i++) {
            parts[i] = n * by[i] / sum;
            rests.add(new int[] {n * by[i] - parts[i] * sum, i});
            left -= parts[i];
        }
        rests.sort((a, b) -> a[0] != b[0] ? b[0] - a[0] : a[1] - b[1]);
        for (int k = 0; k < left; k++) {
            parts[rests.get(k)[1]]++;
        }
        return parts;
    }

    private int[] wanted(int what) {
        int[] w = new int[cCount];
        for (int s = 1; s <= cCount; s++) {
            int[] ahead = w.clone();
            for (C it : cells) {
                if (it.gone || it.cols != s) {
                    continue;
                }
                int lack = it.want(what) - (s - 1) * gap;
                for (int c = it.col; c < it.col + s; c++) {
                    lack -= ahead[c];
                }
                if (lack > 0) {
                    int[] parts = share(lack, Arrays.copyOfRange(weights, it.col, it.col + s));
                    for (int k = 0; k < s; k++) {
                        w[it.col + k] = Math.max(w[it.col + k], ahead[it.col + k] + parts[k]);
                    }
                }
            }
        }
        return w;
    }

    private int[] best() {
        int[] l = wanted(0);
        int[] b = wanted(1);
        for (int c = 0; c < cCount; c++) {
            b[c] = Math.max(b[c], l[c]);
        }
        return b;
    }

    int natural(int column, int what) {
        if (column < 0 || column >= cCount || what < 0 || what > 1) {
            return -1;
        }
        return what == 0 ? wanted(0)[column] : best()[column];
    }

    private int[] heights(int[] w) {
        int[] h = new int[rCount];
        Arrays.fill(h, 1);
        for (int s = 1; s <= rCount; s++) {
            int[] ahead = h.clone();
            for (C it : cells) {
                if (it.gone || it.rows != s) {
                    continue;
                }
                int span = (it.cols - 1) * gap;
                for (int c = it.col; c < it.col + it.cols; c++) {
                    span += w[c];
                }
                int lack = it.lines(span);
                for (int r = it.row; r < it.row + s; r++) {
                    lack -= ahead[r];
                }
                int end = it.row + s - 1;
                h[end] = Math.max(h[end], ahead[end] + lack);
            }
        }
        return h;
    }

    private int all(int[] w) {
        return Arrays.stream(heights(w)).sum();
    }

    int set(int total) {
        if (total < 0 || total > 400) {
            return -1;
        }
        int[] l = wanted(0);
        int[] b = best();
        int suml = Arrays.stream(l).sum();
        int sumb = Arrays.stream(b).sum();
        int t = total - (cCount - 1) * gap;
        if (t < suml) {
            return -4;
        }
        int[] base = t <= sumb ? l : b;
        int[] by = weights;
        if (t <= sumb && sumb > suml) {
            by = new int[cCount];
            for (int c = 0; c < cCount; c++) {
                by[c] = b[c] - l[c];
            }
        }
        int[] parts = share(t - Arrays.stream(base).sum(), by);
        for (int c = 0; c < cCount; c++) {
            parts[c] += base[c];
        }
        widths = parts;
        return all(widths);
    }

    private int looked;
    private int[] lowest;
    private int lowestHeight;

    private void go(int[] w, int column, int left, int limit) {
        if (looked > limit) {
            return;
        }
        if (column == cCount - 1) {
            looked++;
            if (looked > limit) {
                return;
            }
            int[] mine = w.clone();
            mine[column] += left;
            int h = all(mine);
            if (lowest == null || h < lowestHeight) {
                lowest = mine;
                lowestHeight = h;
            }
            return;
        }
        for (int more = 0; more <= left; more++) {
            int[] mine = w.clone();
            mine[column] += more;
            go(mine, column + 1, left - more, limit);
        }
    }

    int tight(int total, int n) {
        if (total < 0 || total > 400 || n < 1 || n > 20000) {
            return -1;
        }
        int[] l = wanted(0);
        int left = total - (cCount - 1) * gap - Arrays.stream(l).sum();
        if (left < 0) {
            return -4;
        }
        looked = 0;
        lowest = null;
        go(l, 0, left, n);
        if (looked > n) {
            tries = n;
            return -6;
        }
        tries = looked;
        widths = lowest;
        return lowestHeight;
    }

    int width(int column) {
        return column < 0 || column >= cCount ? -1 : widths[column];
    }

    int height(int row) {
        return row < 0 || row >= rCount ? -1 : heights(widths)[row];
    }

    private int heads() {
        int heads = 0;
        for (int r = 0; r < rCount; r++) {
            boolean has = false;
            for (C it : cells) {
                has |= it.kind == 1 && it.onRow(r);
            }
            if (!has) {
                break;
            }
            heads++;
        }
        return heads;
    }

    int mayBreak(int row) {
        if (row < 0 || row >= rCount) {
            return -1;
        }
        if (row <= heads()) {
            return 0;
        }
        for (C it : cells) {
            if (it.kind != 3 && it.onRow(row) && it.onRow(row - 1)) {
                return 0;
            }
        }
        return 1;
    }

    private int[] onePage(int from, int to, int h, int[] hs, int head) {
        int empty = h;
        for (int r = 0; r < head; r++) {
            empty -= hs[r];
        }
        for (int r = from; r < to; r++) {
            empty -= hs[r];
        }
        int bits = 0;
        for (int k = 0; k < 10; k++) {
            int home = 99;
            for (C it : cells) {
                if (!it.gone && (it.calls & 1 << k) != 0) {
                    home = Math.min(home, it.row < head ? head : it.row);
                }
            }
            if (home >= from && home < to) {
                bits |= 1 << k;
                empty -= notes[k];
            }
        }
        boolean alone = to - from == 1 && hs[from] == 1 && rCount - head > 1;
        return empty < 0 || alone ? null : new int[] {from, to - from, empty, bits};
    }

    /** Every set of breaks is tried; ways are compared word for word as the document does. */
    int pages(int h) {
        if (h < 1 || h > 200) {
            return -1;
        }
        int head = heads();
        int[] hs = heights(widths);
        int body = rCount - head;
        pages = new ArrayList<>();
        pagesHead = head;
        if (body == 0) {
            return 0;
        }
        int[][][] known = new int[rCount][rCount + 1][];
        boolean[] may = new boolean[rCount];
        for (int from = head; from < rCount; from++) {
            may[from] = mayBreak(from) == 1;
            for (int to = from + 1; to <= rCount; to++) {
                known[from][to] = onePage(from, to, h, hs, head);
            }
        }
        List<int[]> best = null;
        for (int breaks = 0; breaks < 1 << body - 1; breaks++) {
            List<int[]> way = new ArrayList<>();
            int from = head;
            boolean fits = true;
            for (int r = head + 1; r <= rCount && fits; r++) {
                boolean cut = r == rCount || (breaks >> r - head - 1 & 1) == 1;
                if (!cut) {
                    continue;
                }
                int[] page = known[from][r];
                fits = page != null && (r == rCount || may[r]);
                way.add(page);
                from = r;
            }
            if (fits && (best == null || before(way, best))) {
                best = way;
            }
        }
        if (best == null) {
            return -9;
        }
        pages = best;
        return best.size();
    }

    private static boolean before(List<int[]> a, List<int[]> b) {
        if (a.size() != b.size()) {
            return a.size() < b.size();
        }
        int wa = 0;
        int wb = 0;
        for (int p = 0; p < a.size() - 1; p++) {
            wa += a.get(p)[2] * a.get(p)[2];
            wb += b.get(p)[2] * b.get(p)[2];
        }
        if (wa != wb) {
            return wa < wb;
        }
        for (int p = 0; p < a.size(); p++) {
            if (a.get(p)[1] != b.get(p)[1]) {
                return a.get(p)[1] > b.get(p)[1];
            }
        }
        return false;
    }

    int page(int p, int what) {
        if (what < 0 || what > 3) {
            return -1;
        }
        return p < 0 || p >= pages.size() ? -9 : pages.get(p)[what];
    }

    int pageOf(int row) {
        if (row < 0 || row >= rCount) {
            return -1;
        }
        if (pages.isEmpty()) {
            return -9;
        }
        if (row < pagesHead) {
            return 0;
        }
        for (int p = 0; p < pages.size(); p++) {
            if (row >= pages.get(p)[0] && row < pages.get(p)[0] + pages.get(p)[1]) {
                return p;
            }
        }
        throw new IllegalStateException("a row on no page");
    }

    int count(int what) {
        switch (what) {
            case 0: return rCount;
            case 1: return cCount;
            case 2: return cells.size();
            case 3: return (int) cells.stream().filter(it -> !it.gone).count();
            case 4: return heads();
            case 5: return pages.size();
            case 6: return all(widths);
            default: return -1;
        }
    }

    int findings(int f) {
        return f < 1 || f > 6 ? -1 : found[f];
    }

    long digest() {
        List<Integer> v = new ArrayList<>(List.of(rCount, cCount, gap));
        for (int n : weights) {
            v.add(n);
        }
        for (int n : widths) {
            v.add(n);
        }
        for (int n : notes) {
            v.add(n);
        }
        for (C it : cells) {
            if (it.gone) {
                v.add(-1);
                continue;
            }
            v.addAll(List.of(it.kind, it.row, it.col, it.rows, it.cols, it.pieces.size(), it.calls));
            v.addAll(it.pieces);
            if (it.kind == 2) {
                v.add(it.fix);
            }
        }
        v.add(pages.size());
        for (int[] page : pages) {
            for (int n : page) {
                v.add(n);
            }
        }
        long h = 17;
        for (int n : v) {
            h = 31 * h + n;
        }
        return h;
    }
}
