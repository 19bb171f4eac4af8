/** The calls of the face by number, for an object and for Plain alike. */
final class Calls {
    static final String[] NAMES = {"table", "weight", "note", "cell", "clash", "drop", "told", "is", "on", "words", "word",
        "copy", "mean", "calls", "fix", "lines", "want", "natural", "set", "tight", "tries", "width", "height", "pages",
        "page", "pageOf", "mayBreak", "count", "finding", "findings", "digest"};

    private Calls() {
    }

    static int numbered(String name) {
        for (int i = 0; i < NAMES.length; i++) {
            if (NAMES[i].equals(name)) {
                return i;
            }
        }
        throw new IllegalArgumentException(name);
    }

    static long on(TableSetter x, int call, int... a) {
        switch (NAMES[call]) {
            case "table": return x.table(a[0], a[1], a[2]);
            case "weight": return x.weight(a[0], a[1]);
            case "note": return x.note(a[0], a[1]);
            case "cell": return x.cell(a[0], a[1], a[2], a[3], a[4]);
            case "clash": return x.clash();
            case "drop": return x.drop(a[0]);
            case "told": return x.told(a[0], a[1]);
            case "is": return x.is(a[0], a[1]);
            case "on": return x.on(a[0], a[1]);
            case "words": return x.words(a[0], a[1]);
            case "word": return x.word(a[0], a[1], a[2]);
            case "copy": return x.copy(a[0], a[1], a[2], a[3], a[4]);
            case "mean": return x.mean(a[0]);
            case "calls": return x.calls(a[0], a[1]);
            case "fix": return x.fix(a[0], a[1]);
            case "lines": return x.lines(a[0], a[1]);
            case "want": return x.want(a[0], a[1]);
            case "natural": return x.natural(a[0], a[1]);
            case "set": return x.set(a[0]);
            case "tight": return x.tight(a[0], a[1]);
            case "tries": return x.tries();
            case "width": return x.width(a[0]);
            case "height": return x.height(a[0]);
            case "pages": return x.pages(a[0]);
            case "page": return x.page(a[0], a[1]);
            case "pageOf": return x.pageOf(a[0]);
            case "mayBreak": return x.mayBreak(a[0]);
            case "count": return x.count(a[0]);
            case "finding": return x.finding();
            case "findings": return x.findings(a[0]);
            default: return x.digest();
        }
    }

    static long on(Plain y, int call, int... a) {
        switch (NAMES[call]) {
            case "table": return y.table(a[0], a[1], a[2]);
            case "weight": return y.weight(a[0], a[1]);
            case "note": return y.note(a[0], a[1]);
            case "cell": return y.cell(a[0], a[1], a[2], a[3], a[4]);
            case "clash": return y.clash;
            case "drop": return y.drop(a[0]);
            case "told": return y.told(a[0], a[1]);
            case "is": return y.is(a[0], a[1]);
            case "on": return y.on(a[0], a[1]);
            case "words": return y.words(a[0], a[1]);
            case "word": return y.word(a[0], a[1], a[2]);
            case "copy": return y.copy(a[0], a[1], a[2], a[3], a[4]);
            case "mean": return y.mean(a[0]);
            case "calls": return y.calls(a[0], a[1]);
            case "fix": return y.fix(a[0], a[1]);
            case "lines": return y.lines(a[0], a[1]);
            case "want": return y.want(a[0], a[1]);
            case "natural": return y.natural(a[0], a[1]);
            case "set": return y.set(a[0]);
            case "tight": return y.tight(a[0], a[1]);
            case "tries": return y.tries;
            case "width": return y.width(a[0]);
            case "height": return y.height(a[0]);
            case "pages": return y.pages(a[0]);
            case "page": return y.page(a[0], a[1]);
            case "pageOf": return y.pageOf(a[0]);
            case "mayBreak": return y.mayBreak(a[0]);
            case "count": return y.count(a[0]);
            case "finding": return y.finding;
            case "findings": return y.findings(a[0]);
            default: return y.digest();
        }
    }
}
