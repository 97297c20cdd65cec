import java.util.Arrays;

/**
 * Forty reports: children, lines that fit some of them and not others, a writer who gets tired.
 * What each call answers and changes is told by the document's promises 1 to 42.
 */
public final class FortyReports {
    private static final int BEYOND = -1000000001;
    private static final int FULL = -1000000002;
    private static final int KIND = -1000000003;
    private static final int NONE = -1000000004;
    private static final int MISSING = -1000000006;
    private static final int SIZE = -1000000007;
    private static final int FINDINGS = 7;

    private static final int MOST_CHILDREN = 12;
    private static final int MOST_LINES = 12;
    private static final int TRAITS = 4;
    private static final int MOST_TRAIT = 9;
    private static final int MOST_WORDS = 40;
    private static final int MOST_WRITER = 99;
    private static final int MOST_WEAR = 99;
    private static final int MOST_USED = 6;
    private static final int MOST_PLANNED = 6;
    private static final int MOST_ORDERED = 5;
    private static final int MOST_BYTES = 120;
    private static final int SHEETS = 4;
    private static final int MOST_NUMBERS = 40;
    private static final int MOST_SEEN = 9;
    private static final int ENOUGH_SEEN = 3;

    private static final int LINE = 0;
    private static final int SEEN = 1;
    private static final int HEAPED = 2;
    private static final int LEANED = 3;
    private static final int COPIED = 4;
    private static final int CODED = 5;
    private static final int LEFT = 6;
    /** For each kind the one that it stands under; the uppermost stands under itself. */
    private static final int[] ABOVE = {LINE, LINE, LINE, HEAPED, HEAPED, SEEN, LINE};

    private final School school = new School();
    private final School kept = new School();
    private final School trial = new School();
    private final Pen pen = new Pen();
    private final Planner planner = new Planner(trial, pen);
    private final Sieve sieve = new Sieve();
    private final HeapText tape = new HeapText();
    private final Sheet[] sheets = {new Sheet(), new Sheet(), new Sheet(), new Sheet()};
    private final int[] told = new int[FINDINGS];
    private boolean isKept;

    public FortyReports() {
    }

    // ---- children

    public int child(int work, int conduct, int hand, int voice) {
        if (!isTraitValue(work) || !isTraitValue(conduct) || !isTraitValue(hand) || !isTraitValue(voice)) {
            return tell(BEYOND);
        }
        if (school.children >= MOST_CHILDREN) {
            return tell(FULL);
        }
        int child = school.addChild();
        school.traits[child * TRAITS] = work;
        school.traits[child * TRAITS + 1] = conduct;
        school.traits[child * TRAITS + 2] = hand;
        school.traits[child * TRAITS + 3] = voice;
        return child;
    }

    public int of(int child, int what) {
        if (!isChild(child) || !isWithin(what, 0, 8)) {
            return tell(BEYOND);
        }
        switch (what) {
            case 4: return school.seen[child];
            case 5: return school.sex[child];
            case 6: return school.brother[child];
            case 7: return school.reports[child];
            case 8: return school.wordsOf(school.reports[child]);
            default: return school.traits[child * TRAITS + what];
        }
    }

    public int set(int child, int what, int v) {
        if (!isChild(child) || !isWithin(what, 0, 6) || !maySet(child, what, v)) {
            return tell(BEYOND);
        }
        switch (what) {
            case 4: return exchange(school.seen, child, v);
            case 5: return exchange(school.sex, child, v);
            case 6: return exchange(school.brother, child, v);
            default: return exchange(school.traits, child * TRAITS + what, v);
        }
    }

    // ---- lines

    public int line(int kind, int trait, int low, int high, int words) {
        boolean isRange = isTraitValue(low) && isTraitValue(high) && low <= high;
        if (!isKind(kind) || !isWithin(trait, 0, TRAITS - 1) || !isRange || !isWithin(words, 1, MOST_WORDS)) {
            return tell(BEYOND);
        }
        if (school.lines >= MOST_LINES) {
            return tell(FULL);
        }
        return school.addLine(kind, trait, low, high, words);
    }

    public int lineOf(int line, int what) {
        if (!isLine(line) || !isWithin(what, 0, 6)) {
            return tell(BEYOND);
        }
        switch (what) {
            case 0: return school.kind[line];
            case 1: return school.trait[line];
            case 2: return school.low[line];
            case 3: return school.high[line];
            case 4: return school.words[line];
            case 5: return school.says(line);
            default: return school.worth(line, school.says(line));
        }
    }

    public int as(int line, int kind) {
        if (!isLine(line) || !isKind(kind)) {
            return tell(BEYOND);
        }
        if (!isUnder(school.kind[line], kind)) {
            return tell(KIND);
        }
        return school.worth(line, school.says(line));
    }

    public int turn(int line, int kind) {
        if (!isLine(line) || !isKind(kind)) {
            return tell(BEYOND);
        }
        return exchange(school.kind, line, kind);
    }

    public int fits(int line, int child) {
        if (!isLine(line) || !isChild(child)) {
            return tell(BEYOND);
        }
        return school.suits(line, child) ? 1 : 0;
    }

    public int all(int child) {
        if (!isChild(child)) {
            return tell(BEYOND);
        }
        return school.suitable(child);
    }

    // ---- the writer

    public int writer(int what, int v) {
        if (!isWithin(what, 0, 2) || !isWithin(v, what == 0 ? 0 : 1, MOST_WRITER)) {
            return tell(BEYOND);
        }
        int was = now(what);
        switch (what) {
            case 0: school.tired = v; break;
            case 1: school.patience = v; break;
            default: school.length = v; break;
        }
        return was;
    }

    public int report(int child) {
        if (!isChild(child)) {
            return tell(BEYOND);
        }
        pen.writeDown(school, child);
        return pen.usedLines;
    }

    public int rest(int n) {
        if (!isWithin(n, 1, MOST_WRITER)) {
            return tell(BEYOND);
        }
        school.tired = Math.max(0, school.tired - n);
        return school.tired;
    }

    public int tear(int set) {
        if (!isSetOfChildren(set)) {
            return tell(BEYOND);
        }
        int torn = 0;
        for (int child = 0; child < school.children; child++) {
            if (has(set, child) && school.reports[child] != 0) {
                school.reports[child] = 0;
                torn++;
            }
        }
        return torn;
    }

    public int put(int child, int line, boolean is) {
        if (!isChild(child) || !isLine(line)) {
            return tell(BEYOND);
        }
        if (has(school.reports[child], line) == is) {
            return 0;
        }
        school.reports[child] ^= 1 << line;
        return 1;
    }

    public int years(int n) {
        if (!isWithin(n, 1, 20)) {
            return tell(BEYOND);
        }
        for (int year = 0; year < n; year++) {
            school.passYear();
        }
        return school.wear;
    }

    public int now(int what) {
        switch (what) {
            case 0: return school.tired;
            case 1: return school.patience;
            case 2: return school.length;
            case 3: return school.wear;
            default: return tell(BEYOND);
        }
    }

    // ---- what reports say

    public int whose(int child) {
        if (!isChild(child)) {
            return tell(BEYOND);
        }
        return school.candidates(school.reports[child]);
    }

    public int bits(int child) {
        if (!isChild(child)) {
            return tell(BEYOND);
        }
        return school.bitsOfReport(child);
    }

    public int alike(int child) {
        if (!isChild(child)) {
            return tell(BEYOND);
        }
        return school.alikeWith(child);
    }

    public int swaps() {
        int ends = 0;
        for (int child = 0; child < school.children; child++) {
            ends += Integer.bitCount(school.alikeWith(child));
        }
        return ends / 2;
    }

    public int plainest() {
        if (school.children == 0) {
            return tell(NONE);
        }
        int best = 0;
        int most = school.bitsOfReport(0);
        for (int child = 1; child < school.children; child++) {
            int bits = school.bitsOfReport(child);
            if (bits > most) {
                most = bits;
                best = child;
            }
        }
        return best;
    }

    public int wrong(int child) {
        if (!isChild(child)) {
            return tell(BEYOND);
        }
        return school.reports[child] & ~school.suitable(child);
    }

    // ---- plans

    public int plan(int digits, int n) {
        if (!isWithin(n, 0, MOST_PLANNED) || digits < 0 || digits >= Planner.plansOf(n)) {
            return tell(BEYOND);
        }
        if (!planner.takeDigits(digits, n, school.children)) {
            return tell(KIND);
        }
        return planner.follow(school, n);
    }

    public int order(int set, int what) {
        if (!isSetOfChildren(set) || !isWithin(what, -1, MOST_ORDERED)) {
            return tell(BEYOND);
        }
        int size = Integer.bitCount(set);
        if (size > MOST_ORDERED) {
            return tell(SIZE);
        }
        if (what >= size) {
            return tell(NONE);
        }
        planner.begin(school);
        Planner.seek(planner, set, 0, 0);
        return what < 0 ? planner.most : planner.best[what];
    }

    public int heap(int set) {
        if (!isSetOfChildren(set)) {
            return tell(BEYOND);
        }
        sieve.gather(school, set);
        int every = (1 << school.lines) - 1;
        return sieve.parts(every) ? sieve.fewest(every) : tell(NONE);
    }

    public int look(int child, int n) {
        if (!isChild(child) || !isWithin(n, 1, MOST_SEEN)) {
            return tell(BEYOND);
        }
        return school.gainByLooking(child, n);
    }

    public int whom(int n) {
        if (!isWithin(n, 1, MOST_SEEN)) {
            return tell(BEYOND);
        }
        if (school.children == 0) {
            return tell(NONE);
        }
        int best = 0;
        int most = school.gainByLooking(0, n);
        for (int child = 1; child < school.children; child++) {
            int gain = school.gainByLooking(child, n);
            if (gain > most) {
                most = gain;
                best = child;
            }
        }
        return best;
    }

    public int lean(int child) {
        if (!isChild(child)) {
            return tell(BEYOND);
        }
        pen.choose(school, child);
        int asItIs = pen.usedLines;
        int sex = exchange(school.sex, child, 1 - school.sex[child]);
        pen.choose(school, child);
        school.sex[child] = sex;
        return pen.usedLines - asItIs;
    }

    // ---- the text

    public int feed(int bytes, int n) {
        if (!isWithin(n, 1, 4)) {
            return tell(BEYOND);
        }
        if (tape.size + n > MOST_BYTES) {
            return tell(FULL);
        }
        for (int left = n - 1; left >= 0; left--) {
            tape.bytes[tape.size] = (byte) (bytes >> 8 * left);
            tape.size++;
        }
        return tape.size;
    }

    public int wipe() {
        int had = tape.size;
        tape.size = 0;
        return had;
    }

    public int text() {
        trial.become(school);
        int answer = tape.tellInto(trial);
        if (answer >= 0) {
            school.become(trial);
        }
        tape.size = 0;
        return answer;
    }

    // ---- sheets

    public int sheet(int s, int bits, int n) {
        boolean isWidth = bits == 0 || bits == 8 || bits == 16 || bits == 64;
        if (!isSheet(s) || !isWidth) {
            return tell(BEYOND);
        }
        if (n < 0) {
            return tell(SIZE);
        }
        if (n > MOST_NUMBERS) {
            return tell(BEYOND);
        }
        sheets[s].renew(bits, n);
        return sheets[s].size;
    }

    public long write(int s, int i, long v) {
        if (!isSheet(s)) {
            return tell(BEYOND);
        }
        Sheet sheet = sheets[s];
        if (sheet.isMissing()) {
            return tell(MISSING);
        }
        if (!isWithin(i, 0, sheet.size - 1)) {
            return tell(BEYOND);
        }
        long was = sheet.numbers[i];
        sheet.numbers[i] = sheet.lowestBits(v);
        return was;
    }

    public int copy(int s, int from, int t, int to, int n) {
        if (!isSheet(s) || !isSheet(t)) {
            return tell(BEYOND);
        }
        Sheet source = sheets[s];
        Sheet target = sheets[t];
        if (source.isMissing() || target.isMissing()) {
            return tell(MISSING);
        }
        if (source.width != target.width) {
            return tell(KIND);
        }
        if (!source.hasSpan(from, n) || !target.hasSpan(to, n)) {
            return tell(BEYOND);
        }
        System.arraycopy(source.numbers, from, target.numbers, to, n);
        return n;
    }

    public int lays(int s) {
        if (!isSheet(s)) {
            return tell(BEYOND);
        }
        Sheet sheet = sheets[s];
        if (sheet.isMissing()) {
            return tell(MISSING);
        }
        int came = 0;
        for (int child = 0; child < school.children && child < sheet.size; child++) {
            long number = sheet.numbers[child];
            if (number >= 0 && number < 1L << school.lines) {
                school.reports[child] = (int) number;
                came++;
            }
        }
        return came;
    }

    public int read(int s, int child) {
        if (!isSheet(s)) {
            return tell(BEYOND);
        }
        Sheet sheet = sheets[s];
        if (sheet.isMissing()) {
            return tell(MISSING);
        }
        if (!isChild(child)) {
            return tell(BEYOND);
        }
        pen.choose(school, child);
        for (int i = 0; i < sheet.size; i++) {
            if (i >= pen.usedLines || sheet.numbers[i] != pen.used[i]) {
                return 1 + i;
            }
        }
        return sheet.size < pen.usedLines ? 1 + sheet.size : 0;
    }

    // ---- images

    public int image() {
        kept.become(school);
        isKept = true;
        return 1;
    }

    public int undo() {
        if (!isKept) {
            return tell(NONE);
        }
        school.become(kept);
        return school.children;
    }

    public int burn() {
        int had = isKept ? 1 : 0;
        isKept = false;
        return had;
    }

    public int count(int what) {
        switch (what) {
            case 0: return school.children;
            case 1: return school.lines;
            case 2: return school.writtenReports();
            case 3: return school.wordsOfAll();
            case 4: return tape.size;
            default: return tell(BEYOND);
        }
    }

    public int status(int which) {
        if (!isWithin(which, -1, FINDINGS - 1)) {
            return tell(BEYOND);
        }
        if (which >= 0) {
            return told[which];
        }
        int sum = 0;
        for (int finding = 0; finding < FINDINGS; finding++) {
            sum += told[finding];
        }
        return sum;
    }

    // ---- what the calls ask of their arguments

    private int tell(int finding) {
        int place = BEYOND - finding;
        if (isWithin(place, 0, FINDINGS - 1)) {
            told[place]++;
        }
        return finding;
    }

    private boolean isChild(int child) {
        return isWithin(child, 0, school.children - 1);
    }

    private boolean isLine(int line) {
        return isWithin(line, 0, school.lines - 1);
    }

    private boolean isSetOfChildren(int set) {
        return set >= 0 && set < 1 << school.children;
    }

    private boolean maySet(int child, int what, int v) {
        switch (what) {
            case 5: return isWithin(v, 0, 1);
            case 6: return v == -1 || isChild(v) && v != child;
            default: return isTraitValue(v);
        }
    }

    private static boolean isKind(int kind) {
        return isWithin(kind, 0, ABOVE.length - 1);
    }

    private static boolean isSheet(int s) {
        return isWithin(s, 0, SHEETS - 1);
    }

    private static boolean isTraitValue(int v) {
        return isWithin(v, 0, MOST_TRAIT);
    }

    private static boolean isWithin(int v, int low, int high) {
        return v >= low && v <= high;
    }

    private static boolean has(int set, int member) {
        return (set >> member & 1) != 0;
    }

    /** Whether a kind is another one or stands under it; both are kinds. */
    private static boolean isUnder(int kind, int upper) {
        int at = kind;
        for (int step = 0; step < ABOVE.length && at != upper; step++) {
            at = ABOVE[at];
        }
        return at == upper;
    }

    private static int exchange(int[] row, int i, int v) {
        int was = row[i];
        row[i] = v;
        return was;
    }

    /** All that section 1 of the document tells, which is what an image keeps. */
    private static final class School {
        int children;
        final int[] traits = new int[MOST_CHILDREN * TRAITS];
        final int[] seen = new int[MOST_CHILDREN];
        final int[] sex = new int[MOST_CHILDREN];
        final int[] brother = new int[MOST_CHILDREN];
        final int[] reports = new int[MOST_CHILDREN];

        int lines;
        final int[] kind = new int[MOST_LINES];
        final int[] trait = new int[MOST_LINES];
        final int[] low = new int[MOST_LINES];
        final int[] high = new int[MOST_LINES];
        final int[] words = new int[MOST_LINES];

        int tired;
        int patience = 20;
        int length = 60;
        int wear;

        void become(School other) {
            children = other.children;
            System.arraycopy(other.traits, 0, traits, 0, traits.length);
            System.arraycopy(other.seen, 0, seen, 0, MOST_CHILDREN);
            System.arraycopy(other.sex, 0, sex, 0, MOST_CHILDREN);
            System.arraycopy(other.brother, 0, brother, 0, MOST_CHILDREN);
            System.arraycopy(other.reports, 0, reports, 0, MOST_CHILDREN);
            lines = other.lines;
            System.arraycopy(other.kind, 0, kind, 0, MOST_LINES);
            System.arraycopy(other.trait, 0, trait, 0, MOST_LINES);
            System.arraycopy(other.low, 0, low, 0, MOST_LINES);
            System.arraycopy(other.high, 0, high, 0, MOST_LINES);
            System.arraycopy(other.words, 0, words, 0, MOST_LINES);
            tired = other.tired;
            patience = other.patience;
            length = other.length;
            wear = other.wear;
        }

        /** A new child, whose traits the caller sets; the caller has seen that there is room. */
        int addChild() {
            int child = children;
            children++;
            seen[child] = 5;
            sex[child] = 0;
            brother[child] = -1;
            reports[child] = 0;
            return child;
        }

        /** A new line; the caller has seen that there is room. */
        int addLine(int ofKind, int ofTrait, int from, int to, int ofWords) {
            int line = lines;
            lines++;
            kind[line] = ofKind;
            trait[line] = ofTrait;
            low[line] = from;
            high[line] = to;
            words[line] = ofWords;
            return line;
        }

        boolean suits(int line, int child) {
            boolean isSeen = seen[child] >= ENOUGH_SEEN;
            int value = traits[child * TRAITS + trait[line]];
            if (kind[line] == CODED) {
                value = MOST_TRAIT - value;
            }
            boolean isBetween = value >= low[line] && value <= high[line];
            switch (kind[line]) {
                case LINE: return isBetween;
                case SEEN: return isSeen && isBetween;
                case LEANED: return sex[child] == low[line] % 2;
                case COPIED: return brother[child] >= 0 && has(reports[brother[child]], line);
                case CODED: return isSeen && isBetween;
                case LEFT: return !isSeen;
                default: return true;
            }
        }

        int suitable(int child) {
            int set = 0;
            for (int line = 0; line < lines; line++) {
                if (suits(line, child)) {
                    set |= 1 << line;
                }
            }
            return set;
        }

        int says(int line) {
            int not = 0;
            for (int child = 0; child < children; child++) {
                if (!suits(line, child)) {
                    not++;
                }
            }
            return not;
        }

        /** What a line is worth that says so much. */
        int worth(int line, int says) {
            int plain = 10 * says + 1;
            int heaped = plain - words[line] - wear;
            switch (kind[line]) {
                case LINE: return plain;
                case SEEN: return plain + 5;
                case LEANED: return heaped + 1;
                case COPIED: return 2 * heaped;
                case CODED: return plain + 5 - 3;
                case LEFT: return 0;
                default: return heaped;
            }
        }

        int wordsOf(int setOfLines) {
            int sum = 0;
            for (int line = 0; line < lines; line++) {
                if (has(setOfLines, line)) {
                    sum += words[line];
                }
            }
            return sum;
        }

        int wordsOfAll() {
            int sum = 0;
            for (int child = 0; child < children; child++) {
                sum += wordsOf(reports[child]);
            }
            return sum;
        }

        int writtenReports() {
            int written = 0;
            for (int child = 0; child < children; child++) {
                if (reports[child] != 0) {
                    written++;
                }
            }
            return written;
        }

        void passYear() {
            for (int line = 0; line < lines; line++) {
                if (kind[line] == CODED) {
                    high[line] = Math.min(MOST_TRAIT, high[line] + 1);
                    low[line] = Math.min(high[line], low[line] + 1);
                }
            }
            wear = Math.min(MOST_WEAR, wear + 1);
        }

        /** Children whom all lines of a report fit. */
        int candidates(int report) {
            int set = 0;
            for (int child = 0; child < children; child++) {
                if ((report & ~suitable(child)) == 0) {
                    set |= 1 << child;
                }
            }
            return set;
        }

        int bitsOfReport(int child) {
            int could = Integer.bitCount(candidates(reports[child]));
            if (could == 0) {
                return 0;
            }
            int share = children / could;
            int bits = 0;
            while (bits < MOST_CHILDREN && 2 << bits <= share) {
                bits++;
            }
            return bits;
        }

        int alikeWith(int child) {
            int mine = suitable(child);
            int could = candidates(reports[child]);
            int set = 0;
            for (int other = 0; other < children; other++) {
                if (other != child && has(could, other) && (reports[other] & ~mine) == 0) {
                    set |= 1 << other;
                }
            }
            return set;
        }

        /** How many more lines would fit a child that had been seen so much more. */
        int gainByLooking(int child, int n) {
            int before = Integer.bitCount(suitable(child));
            int was = exchange(seen, child, Math.min(MOST_SEEN, seen[child] + n));
            int then = Integer.bitCount(suitable(child));
            seen[child] = was;
            return then - before;
        }
    }

    /** Writes a report: which lines are used, in which order, and what they say together. */
    private static final class Pen {
        final int[] used = new int[MOST_USED];
        int usedLines;
        int said;
        private final int[] says = new int[MOST_LINES];
        private final int[] worth = new int[MOST_LINES];

        /** Tells the lines that would be used now; the school stays as it is. */
        void choose(School school, int child) {
            // the own report is none while it is written: by it copied lines of brothers fit less
            int own = exchange(school.reports, child, 0);
            int left = weighUsable(school, child);
            school.reports[child] = own;
            usedLines = 0;
            said = 0;
            int room = school.length;
            for (int turn = 0; turn < school.lines && left != 0 && usedLines < MOST_USED; turn++) {
                int line = worthiest(left);
                left &= ~(1 << line);
                if (school.words[line] <= room) {
                    room -= school.words[line];
                    said += says[line];
                    used[usedLines] = line;
                    usedLines++;
                }
            }
        }

        void writeDown(School school, int child) {
            choose(school, child);
            int set = 0;
            for (int i = 0; i < usedLines; i++) {
                set |= 1 << used[i];
            }
            school.reports[child] = set;
            school.tired = Math.min(MOST_WRITER, school.tired + usedLines + 1);
        }

        /** The lines that may be used, with what each says and is worth. */
        private int weighUsable(School school, int child) {
            boolean isFresh = school.tired < school.patience;
            int set = 0;
            for (int line = 0; line < school.lines; line++) {
                if ((isFresh || isUnder(school.kind[line], HEAPED)) && school.suits(line, child)) {
                    says[line] = school.says(line);
                    worth[line] = school.worth(line, says[line]);
                    set |= 1 << line;
                }
            }
            return set;
        }

        /** Of a set that isn't empty. */
        private int worthiest(int set) {
            int best = Integer.numberOfTrailingZeros(set);
            for (int line = best + 1; line < MOST_LINES; line++) {
                if (has(set, line) && worth[line] > worth[best]) {
                    best = line;
                }
            }
            return best;
        }
    }

    /** Tries orders of writing on a school of its own. */
    private static final class Planner {
        final int[] best = new int[MOST_PLANNED];
        int most;
        private final int[] tried = new int[MOST_PLANNED];
        private final School trial;
        private final Pen pen;

        Planner(School trial, Pen pen) {
            this.trial = trial;
            this.pen = pen;
        }

        /** 12 to the n. */
        static int plansOf(int n) {
            int plans = 1;
            for (int i = 0; i < n && i < MOST_PLANNED; i++) {
                plans *= MOST_CHILDREN;
            }
            return plans;
        }

        /** Takes n children by their digits; false if one isn't there or is told twice. */
        boolean takeDigits(int digits, int n, int children) {
            int rest = digits;
            int taken = 0;
            for (int i = n - 1; i >= 0; i--) {
                int child = rest % MOST_CHILDREN;
                rest /= MOST_CHILDREN;
                if (child >= children || has(taken, child)) {
                    return false;
                }
                taken |= 1 << child;
                tried[i] = child;
            }
            return true;
        }

        /** What lines say together, if the n children taken are written in their order. */
        int follow(School from, int n) {
            trial.become(from);
            int sum = 0;
            for (int i = 0; i < n; i++) {
                pen.writeDown(trial, tried[i]);
                sum += pen.said;
            }
            return sum;
        }

        /** Nothing has been tried yet; what is found by seek() stands in most and best. */
        void begin(School from) {
            trial.become(from);
            most = -1;
        }

        /** Goes through the orders from the first one on, so that the first of the best stays. */
        private static void seek(Planner planner, int left, int depth, int sum) {
            if (left == 0 || depth >= MOST_PLANNED) {
                if (sum > planner.most) {
                    planner.most = sum;
                    System.arraycopy(planner.tried, 0, planner.best, 0, depth);
                }
                return;
            }
            School trial = planner.trial;
            for (int child = 0; child < trial.children; child++) {
                if (has(left, child)) {
                    int tired = trial.tired;
                    int report = trial.reports[child];
                    planner.tried[depth] = child;
                    planner.pen.writeDown(trial, child);
                    seek(planner, left & ~(1 << child), depth + 1, sum + planner.pen.said);
                    trial.tired = tired;
                    trial.reports[child] = report;
                }
            }
        }
    }

    /** Finds the lines by which children differ. */
    private static final class Sieve {
        private final int[] suitable = new int[MOST_CHILDREN];
        private int size;

        void gather(School school, int set) {
            size = 0;
            for (int child = 0; child < school.children; child++) {
                if (has(set, child)) {
                    suitable[size] = school.suitable(child);
                    size++;
                }
            }
        }

        /** Whether any two of the children gathered differ by a set of lines. */
        boolean parts(int lines) {
            for (int i = 1; i < size; i++) {
                for (int j = 0; j < i; j++) {
                    if (((suitable[i] ^ suitable[j]) & lines) == 0) {
                        return false;
                    }
                }
            }
            return true;
        }

        /** The smallest set that parts them, where all lines do; of several the least. */
        int fewest(int every) {
            int best = every;
            for (int lines = 0; lines < every; lines++) {
                if (Integer.bitCount(lines) < Integer.bitCount(best) && parts(lines)) {
                    best = lines;
                }
            }
            return best;
        }
    }

    /** THE TAPE, and the text of a heap that is told by it. */
    private static final class HeapText {
        private static final int END = 0;
        private static final int NAME = 1;
        private static final int NUMBER = 2;
        private static final int SIGN = 3;
        private static final int STRANGE = 4;
        /** In the order of their numbers, parted by one blank. */
        private static final String KIND_NAMES = "line seen heaped leaned copied coded left";
        private static final String TRAIT_NAMES = "work conduct hand voice";

        final byte[] bytes = new byte[MOST_BYTES];
        int size;
        private int token;
        private int start;
        private int end;
        private int number;

        /** How many items came to the school, or -1 less the place of the fault (and some of them came). */
        int tellInto(School school) {
            end = 0;
            advance();
            for (int items = 1; items <= MOST_BYTES; items++) {
                if (!takeItem(school)) {
                    return -1 - start;
                }
                if (token == END) {
                    return items;
                }
                if (token != SIGN) {
                    return -1 - start;
                }
                advance();
            }
            return -1 - start;
        }

        /** Each taker answers no (or -1) while the token at fault is the one that stands at start. */
        private boolean takeItem(School school) {
            if (isName("child")) {
                return takeChild(school);
            }
            if (isName("patience")) {
                advance();
                int patience = takeNumber(1, MOST_WRITER);
                school.patience = patience;
                return patience >= 0;
            }
            if (isName("length")) {
                advance();
                int length = takeNumber(1, MOST_WRITER);
                school.length = length;
                return length >= 0;
            }
            return takeLine(school);
        }

        private boolean takeLine(School school) {
            int kind = nameAmong(KIND_NAMES);
            if (kind < 0 || school.lines >= MOST_LINES) {
                return false;
            }
            advance();
            int trait = nameAmong(TRAIT_NAMES);
            if (trait < 0) {
                return false;
            }
            advance();
            int low = takeNumber(0, MOST_TRAIT);
            if (low < 0) {
                return false;
            }
            int high = takeNumber(low, MOST_TRAIT);
            if (high < 0) {
                return false;
            }
            int words = 8;
            if (isName("words")) {
                advance();
                words = takeNumber(1, MOST_WORDS);
            }
            if (words < 0) {
                return false;
            }
            school.addLine(kind, trait, low, high, words);
            return true;
        }

        private boolean takeChild(School school) {
            if (school.children >= MOST_CHILDREN) {
                return false;
            }
            int child = school.addChild();
            advance();
            for (int trait = 0; trait < TRAITS; trait++) {
                int value = takeNumber(0, MOST_TRAIT);
                if (value < 0) {
                    return false;
                }
                school.traits[child * TRAITS + trait] = value;
            }
            if (isName("seen")) {
                advance();
                school.seen[child] = takeNumber(0, MOST_SEEN);
            }
            if (school.seen[child] < 0) {
                return false;
            }
            if (isName("girl")) {
                advance();
                school.sex[child] = 1;
            }
            if (isName("of")) {
                advance();
                school.brother[child] = takeNumber(0, child - 1);
                return school.brother[child] >= 0;
            }
            return true;
        }

        /** A number from least to most, or -1. */
        private int takeNumber(int least, int most) {
            if (token != NUMBER || !isWithin(number, least, most)) {
                return -1;
            }
            int taken = number;
            advance();
            return taken;
        }

        private boolean isName(String name) {
            return nameAmong(name) == 0;
        }

        /** Which of several names the token is, or -1. */
        private int nameAmong(String names) {
            int place = 0;
            int from = 0;
            for (int i = 0; i <= names.length(); i++) {
                if (i == names.length() || names.charAt(i) == ' ') {
                    if (isNameWithin(names, from, i)) {
                        return place;
                    }
                    place++;
                    from = i + 1;
                }
            }
            return -1;
        }

        private boolean isNameWithin(String names, int from, int to) {
            if (token != NAME || end - start != to - from) {
                return false;
            }
            for (int i = from; i < to; i++) {
                if (bytes[start + i - from] != names.charAt(i)) {
                    return false;
                }
            }
            return true;
        }

        private void advance() {
            start = end;
            while (start < size && bytes[start] == ' ') {
                start++;
            }
            end = start;
            if (start >= size) {
                token = END;
            } else if (isLetter(bytes[start])) {
                token = NAME;
                while (end < size && isLetter(bytes[end])) {
                    end++;
                }
            } else if (isDigit(bytes[start])) {
                token = NUMBER;
                number = 0;
                while (end < size && isDigit(bytes[end])) {
                    // 100 stands for all that is more than any number may be
                    number = Math.min(100, 10 * number + bytes[end] - '0');
                    end++;
                }
            } else if (bytes[start] == ';') {
                token = SIGN;
                end++;
            } else {
                token = STRANGE;
            }
        }

        private static boolean isLetter(byte b) {
            return b >= 'a' && b <= 'z';
        }

        private static boolean isDigit(byte b) {
            return b >= '0' && b <= '9';
        }
    }

    /** A row of numbers of 8, 16 or 64 bits, or missing (a width of 0). */
    private static final class Sheet {
        int width;
        int size;
        final long[] numbers = new long[MOST_NUMBERS];

        boolean isMissing() {
            return width == 0;
        }

        void renew(int bits, int n) {
            width = bits;
            size = bits == 0 ? 0 : n;
            Arrays.fill(numbers, 0L);
        }

        /** As Java's own numbers of so many bits are: with a sign. */
        long lowestBits(long v) {
            switch (width) {
                case 8: return (byte) v;
                case 16: return (short) v;
                default: return v;
            }
        }

        boolean hasSpan(int from, int n) {
            return from >= 0 && n >= 0 && n <= size - from;
        }
    }
}
