/** Promises 38 to 42. */
final class ImagesTest {
    public static void main(String[] args) {
        image();
        undo();
        burn();
        count();
        status();
        Check.end();
    }

    private static FortyReports full() {
        FortyReports x = Check.withChildren(2);
        x.set(0, 6, 1);
        x.set(1, 5, 1);
        x.line(Check.CODED, 2, 3, 4, 5);
        x.put(1, 0, true);
        x.writer(0, 7);
        x.writer(1, 8);
        x.writer(2, 9);
        x.years(2);
        return x;
    }

    /** All that is told of children, lines and the writer, in one row. */
    private static String told(FortyReports x) {
        StringBuilder all = new StringBuilder();
        for (int child = 0; child < x.count(0); child++) {
            for (int what = 0; what < 9; what++) {
                all.append(x.of(child, what)).append(' ');
            }
        }
        for (int line = 0; line < x.count(1); line++) {
            for (int what = 0; what < 7; what++) {
                all.append(x.lineOf(line, what)).append(' ');
            }
        }
        for (int what = 0; what < 4; what++) {
            all.append(x.now(what)).append(' ');
        }
        return all.toString();
    }

    private static void changeAll(FortyReports x) {
        for (int what = 0; what < 4; what++) {
            x.set(0, what, 9);
        }
        x.set(0, 4, 1);
        x.set(0, 5, 1);
        x.set(0, 6, -1);
        x.child(1, 1, 1, 1);
        x.set(1, 6, 2);
        x.turn(0, Check.HEAPED);
        x.line(Check.LINE, 0, 0, 0, 1);
        x.put(1, 1, true);
        x.put(0, 0, true);
        x.writer(0, 1);
        x.writer(1, 2);
        x.writer(2, 3);
        x.years(5);
    }

    private static void image() {
        FortyReports x = full();
        String before = told(x);
        Check.due("38 kept", x.image(), 1);
        changeAll(x);
        Check.feedAll(x, "abc");
        x.sheet(0, 8, 1);
        Check.due("39 children", x.undo(), 2);
        if (!told(x).equals(before)) {
            Check.fail("39 all is as it was: " + told(x) + ", due is " + before);
        }
        Check.due("38 the tape isn't kept", x.count(4), 3);
        Check.due("38 sheets aren't kept", x.write(0, 0, 1L), 0L);
        Check.due("38 kept anew", x.image(), 1);
        x.turn(0, Check.LINE);
        x.years(1);
        x.undo();
        if (!told(x).equals(before)) {
            Check.fail("38 lines come back, too");
        }
    }

    private static void undo() {
        FortyReports x = new FortyReports();
        Check.due("39 nothing is kept", x.undo(), Check.NONE);
        x.image();
        x.child(1, 1, 1, 1);
        x.image();
        x.child(2, 2, 2, 2);
        Check.due("39 the latest", x.undo(), 1);
        x.child(3, 3, 3, 3);
        Check.due("39 which stays", x.undo(), 1);
        x.set(0, 0, 9);
        x.undo();
        Check.due("39 it isn't changed by what comes", x.of(0, 0), 1);
        Check.due("39 findings stay", x.status(3), 1);
        x.child(4, 4, 4, 4);
        Check.due("39 a new child is new", x.of(1, 7), 0);
    }

    private static void burn() {
        FortyReports x = new FortyReports();
        Check.due("40 nothing", x.burn(), 0);
        x.image();
        x.image();
        Check.due("40 something", x.burn(), 1);
        Check.due("40 nothing now", x.burn(), 0);
        Check.due("40 none", x.undo(), Check.NONE);
    }

    private static void count() {
        FortyReports x = Check.withChildren(3);
        x.line(Check.LINE, 0, 0, 0, 5);
        x.line(Check.LINE, 0, 0, 0, 7);
        x.put(0, 0, true);
        x.put(0, 1, true);
        x.put(2, 1, true);
        Check.feedAll(x, "ab cd");
        int[] due = {3, 2, 2, 19, 5};
        for (int what = 0; what < 5; what++) {
            Check.due("41 what " + what, x.count(what), due[what]);
        }
        Check.due("41 what below", x.count(-1), Check.BEYOND);
        Check.due("41 what above", x.count(5), Check.BEYOND);
    }

    private static void status() {
        FortyReports x = new FortyReports();
        Check.due("42 another one", x.status(7), Check.BEYOND);
        Check.due("42 is counted", x.status(0), 1);
        Check.due("42 below", x.status(-2), Check.BEYOND);
        x.undo();
        x.plan(0, 1);
        x.lays(0);
        x.sheet(0, 8, -1);
        x.sheet(0, 8, -1);
        for (int i = 0; i < 13; i++) {
            x.child(0, 0, 0, 0);
        }
        int[] due = {2, 1, 1, 1, 0, 1, 2};
        for (int which = 0; which < 7; which++) {
            Check.due("42 which " + which, x.status(which), due[which]);
        }
        Check.due("42 all", x.status(-1), 8);
        x.image();
        x.undo();
        Check.due("42 none is taken back", x.status(-1), 8);
        x.write(0, 0, 0L);
        Check.due("42 in longs, too", x.status(5), 2);
    }
}
