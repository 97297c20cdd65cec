import java.util.ArrayList;
import java.util.Arrays;
import java.util.Comparator;
import java.util.List;
import java.util.TreeSet;
import java.util.regex.Matcher;
import java.util.regex.Pattern;

/** The document told again in another way, slow and plain, for ModelTest to compare with. */
final class Model {
    static final class Child {
        int[] traits = new int[4];
        int seen = 5;
        int sex = 0;
        int brother = -1;
        TreeSet<Integer> report = new TreeSet<>();

        Child twin() {
            Child c = new Child();
            c.traits = traits.clone();
            c.seen = seen;
            c.sex = sex;
            c.brother = brother;
            c.report = new TreeSet<>(report);
            return c;
        }
    }

    static final class Line {
        int kind;
        int trait;
        int low;
        int high;
        int words;

        Line(int kind, int trait, int low, int high, int words) {
            this.kind = kind;
            this.trait = trait;
            this.low = low;
            this.high = high;
            this.words = words;
        }
    }

    List<Child> children = new ArrayList<>();
    List<Line> lines = new ArrayList<>();
    int tired = 0;
    int patience = 20;
    int length = 60;
    int wear = 0;

    Model twin() {
        Model m = new Model();
        for (Child c : children) {
            m.children.add(c.twin());
        }
        for (Line l : lines) {
            m.lines.add(new Line(l.kind, l.trait, l.low, l.high, l.words));
        }
        m.tired = tired;
        m.patience = patience;
        m.length = length;
        m.wear = wear;
        return m;
    }

    static int bitsOf(Iterable<Integer> members) {
        int set = 0;
        for (int i : members) {
            set += 1 << i;
        }
        return set;
    }

    boolean fits(int line, int child) {
        Line l = lines.get(line);
        Child c = children.get(child);
        int t = c.traits[l.trait];
        if (l.kind == Check.LINE) {
            return t >= l.low && t <= l.high;
        }
        if (l.kind == Check.SEEN) {
            return t >= l.low && t <= l.high && c.seen >= 3;
        }
        if (l.kind == Check.HEAPED) {
            return true;
        }
        if (l.kind == Check.LEANED) {
            return c.sex == (l.low & 1);
        }
        if (l.kind == Check.COPIED) {
            return c.brother != -1 && children.get(c.brother).report.contains(line);
        }
        if (l.kind == Check.CODED) {
            return 9 - t >= l.low && 9 - t <= l.high && c.seen >= 3;
        }
        return c.seen < 3;
    }

    int all(int child) {
        int set = 0;
        for (int l = 0; l < lines.size(); l++) {
            set += fits(l, child) ? 1 << l : 0;
        }
        return set;
    }

    int says(int line) {
        int n = children.size();
        for (int c = 0; c < children.size(); c++) {
            n -= fits(line, c) ? 1 : 0;
        }
        return n;
    }

    int worthAs(int line, int kind) {
        switch (kind) {
            case Check.LINE: return 10 * says(line) + 1;
            case Check.SEEN: return worthAs(line, Check.LINE) + 5;
            case Check.HEAPED: return worthAs(line, Check.LINE) - lines.get(line).words - wear;
            case Check.LEANED: return worthAs(line, Check.HEAPED) + 1;
            case Check.COPIED: return worthAs(line, Check.HEAPED) * 2;
            case Check.CODED: return worthAs(line, Check.SEEN) - 3;
            default: return 0;
        }
    }

    int worth(int line) {
        return worthAs(line, lines.get(line).kind);
    }

    static boolean under(int kind, int upper) {
        String chains = "0 10 20 320 420 510 60";
        return chains.split(" ")[kind].indexOf((char) ('0' + upper)) >= 0;
    }

    /** Writes, and answers the lines in the order of their use; what they say comes behind a -1. */
    List<Integer> write(int child) {
        Child c = children.get(child);
        c.report = new TreeSet<>();
        List<Integer> may = new ArrayList<>();
        for (int l = 0; l < lines.size(); l++) {
            if (fits(l, child) && (tired < patience || under(lines.get(l).kind, Check.HEAPED))) {
                may.add(l);
            }
        }
        may.sort(Comparator.<Integer>comparingInt(l -> -worth(l)).thenComparingInt(l -> l));
        List<Integer> used = new ArrayList<>();
        int words = 0;
        int said = 0;
        for (int l : may) {
            if (used.size() < 6 && words + lines.get(l).words <= length) {
                words += lines.get(l).words;
                said += says(l);
                used.add(l);
            }
        }
        c.report.addAll(used);
        tired = Math.min(99, tired + 1 + used.size());
        used.add(-1);
        used.add(said);
        return used;
    }

    static int usedCount(List<Integer> written) {
        return written.size() - 2;
    }

    int whose(int child) {
        int set = 0;
        for (int c = 0; c < children.size(); c++) {
            boolean can = true;
            for (int l : children.get(child).report) {
                can = can && fits(l, c);
            }
            set += can ? 1 << c : 0;
        }
        return set;
    }

    int bits(int child) {
        int of = Integer.bitCount(whose(child));
        if (of == 0) {
            return 0;
        }
        int n = 0;
        while (Math.pow(2, n + 1) <= children.size() / of) {
            n++;
        }
        return n;
    }

    boolean alike(int a, int b) {
        return a != b && (whose(a) >> b & 1) == 1 && (whose(b) >> a & 1) == 1;
    }

    int follow(List<Integer> order) {
        Model m = twin();
        int sum = 0;
        for (int c : order) {
            List<Integer> written = m.write(c);
            sum += written.get(written.size() - 1);
        }
        return sum;
    }

    /** All orders, the first by numbers first. */
    static List<List<Integer>> orders(List<Integer> of) {
        List<List<Integer>> all = new ArrayList<>();
        if (of.isEmpty()) {
            all.add(new ArrayList<>());
        }
        for (int i = 0; i < of.size(); i++) {
            List<Integer> others = new ArrayList<>(of);
            int first = others.remove(i);
            for (List<Integer> tail : orders(others)) {
                tail.add(0, first);
                all.add(tail);
            }
        }
        return all;
    }

    static List<Integer> members(int set) {
        List<Integer> list = new ArrayList<>();
        for (int i = 0; i < 31; i++) {
            if ((set >> i & 1) == 1) {
                list.add(i);
            }
        }
        return list;
    }

    List<Integer> bestOrder(int set) {
        List<Integer> best = null;
        int most = 0;
        for (List<Integer> order : orders(members(set))) {
            int sum = follow(order);
            if (best == null || sum > most) {
                best = order;
                most = sum;
            }
        }
        return best;
    }

    int heap(int set) {
        List<Integer> who = members(set);
        for (int size = 0; size <= lines.size(); size++) {
            for (int m = 0; m < 1 << lines.size(); m++) {
                if (Integer.bitCount(m) == size && differ(who, m)) {
                    return m;
                }
            }
        }
        return Check.NONE;
    }

    private boolean differ(List<Integer> who, int m) {
        TreeSet<Integer> looks = new TreeSet<>();
        for (int c : who) {
            looks.add(all(c) & m);
        }
        return looks.size() == who.size();
    }

    int look(int child, int n) {
        Model m = twin();
        m.children.get(child).seen = Math.min(9, m.children.get(child).seen + n);
        return Integer.bitCount(m.all(child)) - Integer.bitCount(all(child));
    }

    int lean(int child) {
        Model other = twin();
        other.children.get(child).sex = 1 - other.children.get(child).sex;
        return usedCount(other.write(child)) - usedCount(twin().write(child));
    }

    void year() {
        for (Line l : lines) {
            if (l.kind == Check.CODED) {
                l.high = l.high == 9 ? 9 : l.high + 1;
                l.low = Math.min(l.low + 1, l.high);
            }
        }
        wear = wear == 99 ? 99 : wear + 1;
    }

    /** Told onto this model; with a fault -1 less its place, and then this model is spoilt. */
    int tell(String tape) {
        List<String> tokens = new ArrayList<>();
        List<Integer> places = new ArrayList<>();
        Matcher m = Pattern.compile("[a-z]+|[0-9]+|[^ ]").matcher(tape);
        while (m.find()) {
            tokens.add(m.group());
            places.add(m.start());
        }
        places.add(tape.length());
        int items = 0;
        int at = 0;
        while (true) {
            int next = item(tokens, at);
            if (next < 0) {
                return -1 - places.get(-1 - next);
            }
            items++;
            if (next == tokens.size()) {
                return items;
            }
            if (!tokens.get(next).equals(";")) {
                return -1 - places.get(next);
            }
            at = next + 1;
        }
    }

    private static String token(List<String> tokens, int i) {
        return i < tokens.size() ? tokens.get(i) : "";
    }

    private static int number(List<String> tokens, int i, int low, int high) {
        String t = token(tokens, i).replaceFirst("^0+(?=[0-9])", "");
        if (!t.matches("[0-9]{1,2}")) {
            return -1;
        }
        int n = Integer.parseInt(t);
        return n >= low && n <= high ? n : -1;
    }

    /** Where the item ends; with a fault -1 less the number of its token. */
    private int item(List<String> tokens, int at) {
        String first = token(tokens, at);
        if (first.equals("patience") || first.equals("length")) {
            int n = number(tokens, at + 1, 1, 99);
            if (n < 0) {
                return -1 - (at + 1);
            }
            patience = first.equals("patience") ? n : patience;
            length = first.equals("length") ? n : length;
            return at + 2;
        }
        if (first.equals("child")) {
            return children.size() == 12 ? -1 - at : childItem(tokens, at + 1);
        }
        int kind = Arrays.asList("line", "seen", "heaped", "leaned", "copied", "coded", "left").indexOf(first);
        return kind < 0 || lines.size() == 12 ? -1 - at : lineItem(kind, tokens, at + 1);
    }

    private int lineItem(int kind, List<String> tokens, int at) {
        int trait = Arrays.asList("work", "conduct", "hand", "voice").indexOf(token(tokens, at));
        if (trait < 0) {
            return -1 - at;
        }
        int low = number(tokens, at + 1, 0, 9);
        if (low < 0) {
            return -1 - (at + 1);
        }
        int high = number(tokens, at + 2, low, 9);
        if (high < 0) {
            return -1 - (at + 2);
        }
        Line line = new Line(kind, trait, low, high, 8);
        lines.add(line);
        if (!token(tokens, at + 3).equals("words")) {
            return at + 3;
        }
        line.words = number(tokens, at + 4, 1, 40);
        return line.words < 0 ? -1 - (at + 4) : at + 5;
    }

    private int childItem(List<String> tokens, int from) {
        int at = from;
        Child c = new Child();
        for (int t = 0; t < 4; t++, at++) {
            c.traits[t] = number(tokens, at, 0, 9);
            if (c.traits[t] < 0) {
                return -1 - at;
            }
        }
        if (token(tokens, at).equals("seen")) {
            c.seen = number(tokens, at + 1, 0, 9);
            if (c.seen < 0) {
                return -1 - (at + 1);
            }
            at += 2;
        }
        if (token(tokens, at).equals("girl")) {
            c.sex = 1;
            at++;
        }
        if (token(tokens, at).equals("of")) {
            c.brother = number(tokens, at + 1, 0, children.size() - 1);
            if (c.brother < 0) {
                return -1 - (at + 1);
            }
            at += 2;
        }
        children.add(c);
        return at;
    }
}
