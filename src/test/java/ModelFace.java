import java.util.ArrayList;
import java.util.List;

/** The calls of the document's face, answered by the model. */
final class ModelFace {
    private Model m = new Model();
    private Model kept = null;
    private String tape = "";
    private final long[][] sheets = new long[4][];
    private final int[] widths = new int[4];
    private final int[] told = new int[7];

    private int tell(int finding) {
        told[-1000000001 - finding]++;
        return finding;
    }

    private static boolean in(long v, long low, long high) {
        return low <= v && v <= high;
    }

    private boolean c(int child) {
        return in(child, 0, m.children.size() - 1);
    }

    private boolean l(int line) {
        return in(line, 0, m.lines.size() - 1);
    }

    private boolean someSet(int set) {
        return in(set, 0, (1 << m.children.size()) - 1);
    }

    /** Answers a call by its name; booleans come as 0 and 1. */
    long call(String name, long[] a) {
        int p = a.length > 0 ? (int) a[0] : 0;
        int q = a.length > 1 ? (int) a[1] : 0;
        int r = a.length > 2 ? (int) a[2] : 0;
        switch (name) {
            case "child": return child(a);
            case "of": return of(p, q);
            case "set": return set(p, q, r);
            case "line": return line(a);
            case "lineOf": return lineOf(p, q);
            case "as": return !l(p) || !in(q, 0, 6) ? tell(Check.BEYOND)
                    : Model.under(m.lines.get(p).kind, q) ? m.worth(p) : tell(Check.KIND);
            case "turn": return turn(p, q);
            case "fits": return !l(p) || !c(q) ? tell(Check.BEYOND) : m.fits(p, q) ? 1 : 0;
            case "all": return c(p) ? m.all(p) : tell(Check.BEYOND);
            case "writer": return writer(p, q);
            case "report": return c(p) ? Model.usedCount(m.write(p)) : tell(Check.BEYOND);
            case "rest": return in(p, 1, 99) ? m.tired = Math.max(0, m.tired - p) : tell(Check.BEYOND);
            case "tear": return tear(p);
            case "put": return put(p, q, r == 1);
            case "years": return years(p);
            case "now": return in(p, 0, 3) ? new int[] {m.tired, m.patience, m.length, m.wear}[p] : tell(Check.BEYOND);
            case "whose": return c(p) ? m.whose(p) : tell(Check.BEYOND);
            case "bits": return c(p) ? m.bits(p) : tell(Check.BEYOND);
            case "alike": return c(p) ? alike(p) : tell(Check.BEYOND);
            case "swaps": return swaps();
            case "plainest": return plainest();
            case "wrong": return c(p) ? Model.bitsOf(m.children.get(p).report) & ~m.all(p) : tell(Check.BEYOND);
            case "plan": return plan(p, q);
            case "order": return order(p, q);
            case "heap": return heap(p);
            case "look": return c(p) && in(q, 1, 9) ? m.look(p, q) : tell(Check.BEYOND);
            case "whom": return whom(p);
            case "lean": return c(p) ? m.lean(p) : tell(Check.BEYOND);
            case "feed": return feed(p, q);
            case "wipe": return wipe();
            case "text": return text();
            case "sheet": return sheet(p, q, r);
            case "write": return write(p, q, a[2]);
            case "copy": return copy(p, q, r, (int) a[3], (int) a[4]);
            case "lays": return lays(p);
            case "read": return read(p, q);
            case "image": kept = m.twin(); return 1;
            case "undo": return undo();
            case "burn": return burn();
            case "count": return count(p);
            default: return status(p);
        }
    }

    private int child(long[] a) {
        for (long t : a) {
            if (!in(t, 0, 9)) {
                return tell(Check.BEYOND);
            }
        }
        if (m.children.size() == 12) {
            return tell(Check.FULL);
        }
        Model.Child child = new Model.Child();
        for (int t = 0; t < 4; t++) {
            child.traits[t] = (int) a[t];
        }
        m.children.add(child);
        return m.children.size() - 1;
    }

    private int words(Model.Child child) {
        int sum = 0;
        for (int line : child.report) {
            sum += m.lines.get(line).words;
        }
        return sum;
    }

    private int of(int p, int q) {
        if (!c(p) || !in(q, 0, 8)) {
            return tell(Check.BEYOND);
        }
        Model.Child x = m.children.get(p);
        return q < 4 ? x.traits[q]
                : new int[] {x.seen, x.sex, x.brother, Model.bitsOf(x.report), words(x)}[q - 4];
    }

    private int set(int p, int q, int v) {
        if (!c(p) || !in(q, 0, 6)) {
            return tell(Check.BEYOND);
        }
        boolean may = q < 5 ? in(v, 0, 9) : q == 5 ? in(v, 0, 1) : v == -1 || c(v) && v != p;
        if (!may) {
            return tell(Check.BEYOND);
        }
        int was = of(p, q);
        Model.Child x = m.children.get(p);
        if (q < 4) {
            x.traits[q] = v;
        } else if (q == 4) {
            x.seen = v;
        } else if (q == 5) {
            x.sex = v;
        } else {
            x.brother = v;
        }
        return was;
    }

    private int line(long[] a) {
        boolean may = in(a[0], 0, 6) && in(a[1], 0, 3) && in(a[2], 0, a[3]) && in(a[3], 0, 9) && in(a[4], 1, 40);
        if (!may) {
            return tell(Check.BEYOND);
        }
        if (m.lines.size() == 12) {
            return tell(Check.FULL);
        }
        m.lines.add(new Model.Line((int) a[0], (int) a[1], (int) a[2], (int) a[3], (int) a[4]));
        return m.lines.size() - 1;
    }

    private int lineOf(int p, int q) {
        if (!l(p) || !in(q, 0, 6)) {
            return tell(Check.BEYOND);
        }
        Model.Line x = m.lines.get(p);
        return new int[] {x.kind, x.trait, x.low, x.high, x.words, m.says(p), m.worth(p)}[q];
    }

    private int turn(int p, int q) {
        if (!l(p) || !in(q, 0, 6)) {
            return tell(Check.BEYOND);
        }
        int was = m.lines.get(p).kind;
        m.lines.get(p).kind = q;
        return was;
    }

    private int writer(int p, int v) {
        if (!in(p, 0, 2) || !in(v, p == 0 ? 0 : 1, 99)) {
            return tell(Check.BEYOND);
        }
        int was = p == 0 ? m.tired : p == 1 ? m.patience : m.length;
        m.tired = p == 0 ? v : m.tired;
        m.patience = p == 1 ? v : m.patience;
        m.length = p == 2 ? v : m.length;
        return was;
    }

    private int tear(int set) {
        if (!someSet(set)) {
            return tell(Check.BEYOND);
        }
        int had = 0;
        for (int i : Model.members(set)) {
            had += m.children.get(i).report.isEmpty() ? 0 : 1;
            m.children.get(i).report.clear();
        }
        return had;
    }

    private int put(int p, int q, boolean is) {
        if (!c(p) || !l(q)) {
            return tell(Check.BEYOND);
        }
        boolean isNew = is ? m.children.get(p).report.add(q) : m.children.get(p).report.remove(q);
        return isNew ? 1 : 0;
    }

    private int years(int n) {
        if (!in(n, 1, 20)) {
            return tell(Check.BEYOND);
        }
        for (int i = 0; i < n; i++) {
            m.year();
        }
        return m.wear;
    }

    private int alike(int p) {
        int set = 0;
        for (int i = 0; i < m.children.size(); i++) {
            set += m.alike(p, i) ? 1 << i : 0;
        }
        return set;
    }

    private int swaps() {
        int twos = 0;
        for (int i = 0; i < m.children.size(); i++) {
            for (int j = 0; j < i; j++) {
                twos += m.alike(i, j) ? 1 : 0;
            }
        }
        return twos;
    }

    private int plainest() {
        int best = -1;
        for (int i = m.children.size() - 1; i >= 0; i--) {
            best = best < 0 || m.bits(i) >= m.bits(best) ? i : best;
        }
        return best < 0 ? tell(Check.NONE) : best;
    }

    private int plan(int digits, int n) {
        if (!in(n, 0, 6) || digits < 0 || digits >= Math.round(Math.pow(12, n))) {
            return tell(Check.BEYOND);
        }
        List<Integer> order = new ArrayList<>();
        for (int place = n - 1; place >= 0; place--) {
            int child = (int) (digits / Math.round(Math.pow(12, place)) % 12);
            if (!c(child) || order.contains(child)) {
                return tell(Check.KIND);
            }
            order.add(child);
        }
        return m.follow(order);
    }

    private int order(int set, int what) {
        if (!someSet(set) || !in(what, -1, 5)) {
            return tell(Check.BEYOND);
        }
        int size = Model.members(set).size();
        if (size > 5) {
            return tell(Check.SIZE);
        }
        if (what >= size) {
            return tell(Check.NONE);
        }
        List<Integer> best = m.bestOrder(set);
        return what == -1 ? m.follow(best) : best.get(what);
    }

    private int heap(int set) {
        if (!someSet(set)) {
            return tell(Check.BEYOND);
        }
        int found = m.heap(set);
        return found < 0 ? tell(found) : found;
    }

    private int whom(int n) {
        if (!in(n, 1, 9)) {
            return tell(Check.BEYOND);
        }
        int best = -1;
        for (int i = m.children.size() - 1; i >= 0; i--) {
            best = best < 0 || m.look(i, n) >= m.look(best, n) ? i : best;
        }
        return best < 0 ? tell(Check.NONE) : best;
    }

    private int feed(int bytes, int n) {
        if (!in(n, 1, 4)) {
            return tell(Check.BEYOND);
        }
        if (tape.length() + n > 120) {
            return tell(Check.FULL);
        }
        for (int i = n - 1; i >= 0; i--) {
            tape += (char) (bytes >>> 8 * i & 255);
        }
        return tape.length();
    }

    private int wipe() {
        int had = tape.length();
        tape = "";
        return had;
    }

    private int text() {
        Model next = m.twin();
        int answer = next.tell(tape);
        tape = "";
        m = answer < 0 ? m : next;
        return answer;
    }

    private int sheet(int s, int bits, int n) {
        if (!in(s, 0, 3) || bits != 0 && bits != 8 && bits != 16 && bits != 64) {
            return tell(Check.BEYOND);
        }
        if (n < 0) {
            return tell(Check.SIZE);
        }
        if (n > 40) {
            return tell(Check.BEYOND);
        }
        sheets[s] = bits == 0 ? null : new long[n];
        widths[s] = bits;
        return bits == 0 ? 0 : n;
    }

    private long write(int s, int i, long v) {
        if (!in(s, 0, 3)) {
            return tell(Check.BEYOND);
        }
        if (sheets[s] == null) {
            return tell(Check.MISSING);
        }
        if (!in(i, 0, sheets[s].length - 1)) {
            return tell(Check.BEYOND);
        }
        long was = sheets[s][i];
        sheets[s][i] = v << 64 - widths[s] >> 64 - widths[s];
        return was;
    }

    private int copy(int s, int from, int t, int to, int n) {
        if (!in(s, 0, 3) || !in(t, 0, 3)) {
            return tell(Check.BEYOND);
        }
        if (sheets[s] == null || sheets[t] == null) {
            return tell(Check.MISSING);
        }
        if (widths[s] != widths[t]) {
            return tell(Check.KIND);
        }
        boolean may = from >= 0 && to >= 0 && n >= 0
                && (long) from + n <= sheets[s].length && (long) to + n <= sheets[t].length;
        if (!may) {
            return tell(Check.BEYOND);
        }
        long[] were = sheets[s].clone();
        for (int i = 0; i < n; i++) {
            sheets[t][to + i] = were[from + i];
        }
        return n;
    }

    private int lays(int s) {
        if (!in(s, 0, 3)) {
            return tell(Check.BEYOND);
        }
        if (sheets[s] == null) {
            return tell(Check.MISSING);
        }
        int came = 0;
        for (int i = 0; i < sheets[s].length; i++) {
            if (c(i) && in(sheets[s][i], 0, (1 << m.lines.size()) - 1)) {
                m.children.get(i).report.clear();
                m.children.get(i).report.addAll(Model.members((int) sheets[s][i]));
                came++;
            }
        }
        return came;
    }

    private int read(int s, int child) {
        if (!in(s, 0, 3)) {
            return tell(Check.BEYOND);
        }
        if (sheets[s] == null) {
            return tell(Check.MISSING);
        }
        if (!c(child)) {
            return tell(Check.BEYOND);
        }
        List<Integer> written = m.twin().write(child);
        int due = Model.usedCount(written);
        int same = 0;
        while (same < due && same < sheets[s].length && sheets[s][same] == written.get(same)) {
            same++;
        }
        return same == due && same == sheets[s].length ? 0 : 1 + same;
    }

    private int undo() {
        if (kept == null) {
            return tell(Check.NONE);
        }
        m = kept.twin();
        return m.children.size();
    }

    private int burn() {
        int had = kept == null ? 0 : 1;
        kept = null;
        return had;
    }

    private int count(int what) {
        int reports = 0;
        int words = 0;
        for (Model.Child x : m.children) {
            reports += x.report.isEmpty() ? 0 : 1;
            words += words(x);
        }
        int[] counts = {m.children.size(), m.lines.size(), reports, words, tape.length()};
        return in(what, 0, 4) ? counts[what] : tell(Check.BEYOND);
    }

    private int status(int which) {
        if (!in(which, -1, 6)) {
            return tell(Check.BEYOND);
        }
        int sum = 0;
        for (int i = 0; i < 7; i++) {
            sum += which == -1 || which == i ? told[i] : 0;
        }
        return sum;
    }
}
