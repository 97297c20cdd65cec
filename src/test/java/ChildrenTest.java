/** Promises 1 to 4. */
final class ChildrenTest {
    public static void main(String[] args) {
        newObject();
        child();
        of();
        set();
        Check.end();
    }

    private static void newObject() {
        FortyReports x = new FortyReports();
        Check.due("1 children", x.count(0), 0);
        Check.due("1 lines", x.count(1), 0);
        Check.due("1 reports", x.count(2), 0);
        Check.due("1 words", x.count(3), 0);
        Check.due("1 tape", x.count(4), 0);
        Check.due("1 tired", x.now(0), 0);
        Check.due("1 patience", x.now(1), 20);
        Check.due("1 length", x.now(2), 60);
        Check.due("1 wear", x.now(3), 0);
        Check.due("1 findings", x.status(-1), 0);
        Check.due("1 sheet", x.lays(3), Check.MISSING);
        Check.due("1 image", x.undo(), Check.NONE);
    }

    private static void child() {
        FortyReports x = new FortyReports();
        Check.due("2 first", x.child(0, 9, 3, 4), 0);
        Check.due("2 work", x.child(-1, 0, 0, 0), Check.BEYOND);
        Check.due("2 conduct", x.child(0, 10, 0, 0), Check.BEYOND);
        Check.due("2 hand", x.child(0, 0, -1, 0), Check.BEYOND);
        Check.due("2 voice", x.child(0, 0, 0, Integer.MAX_VALUE), Check.BEYOND);
        Check.due("2 seen", x.of(0, 4), 5);
        Check.due("2 sex", x.of(0, 5), 0);
        Check.due("2 brother", x.of(0, 6), -1);
        Check.due("2 report", x.of(0, 7), 0);
        for (int i = 1; i < 12; i++) {
            Check.due("2 next", x.child(9, 9, 9, 9), i);
        }
        Check.due("2 full, asked last", x.child(10, 0, 0, 0), Check.BEYOND);
        Check.due("2 full", x.child(0, 0, 0, 0), Check.FULL);
        Check.due("2 count", x.count(0), 12);
    }

    private static void of() {
        FortyReports x = new FortyReports();
        x.child(1, 2, 3, 4);
        for (int t = 0; t < 4; t++) {
            Check.due("3 trait", x.of(0, t), t + 1);
        }
        x.line(0, 0, 0, 9, 7);
        x.line(0, 0, 0, 9, 11);
        Check.due("3 words of none", x.of(0, 8), 0);
        x.put(0, 0, true);
        x.put(0, 1, true);
        Check.due("3 report", x.of(0, 7), 3);
        Check.due("3 words", x.of(0, 8), 18);
        Check.due("3 what below", x.of(0, -1), Check.BEYOND);
        Check.due("3 what above", x.of(0, 9), Check.BEYOND);
        Check.due("3 nobody", x.of(1, 0), Check.BEYOND);
        Check.due("3 nobody below", x.of(-1, 0), Check.BEYOND);
    }

    private static void set() {
        FortyReports x = Check.withChildren(3);
        for (int what = 0; what < 5; what++) {
            Check.due("4 was", x.set(1, what, 9), what == 4 ? 5 : 0);
            Check.due("4 was 9", x.set(1, what, what), 9);
            Check.due("4 is", x.of(1, what), what);
            Check.due("4 below", x.set(1, what, -1), Check.BEYOND);
            Check.due("4 above", x.set(1, what, 10), Check.BEYOND);
        }
        Check.due("4 sex", x.set(1, 5, 1), 0);
        Check.due("4 sex 2", x.set(1, 5, 2), Check.BEYOND);
        Check.due("4 sex is", x.of(1, 5), 1);
        Check.due("4 brother", x.set(1, 6, 2), -1);
        Check.due("4 brother again", x.set(1, 6, 0), 2);
        Check.due("4 own brother", x.set(1, 6, 1), Check.BEYOND);
        Check.due("4 brother who isn't there", x.set(1, 6, 3), Check.BEYOND);
        Check.due("4 brother below", x.set(1, 6, -2), Check.BEYOND);
        Check.due("4 brother stays", x.of(1, 6), 0);
        Check.due("4 no brother", x.set(1, 6, -1), 0);
        Check.due("4 brother none", x.of(1, 6), -1);
        Check.due("4 report can't be set", x.set(1, 7, 0), Check.BEYOND);
        Check.due("4 what below", x.set(1, -1, 0), Check.BEYOND);
        Check.due("4 nobody", x.set(3, 0, 0), Check.BEYOND);
        Check.due("4 others stay", x.of(0, 0) + x.of(2, 3), 0);
    }
}
