/** Promises 24 to 29. */
final class PlansTest {
    public static void main(String[] args) {
        plan();
        planChangesNothing();
        planOfBrothers();
        order();
        orderOfTheTired();
        heap();
        look();
        whom();
        lean();
        Check.end();
    }

    private static FortyReports three() {
        FortyReports x = new FortyReports();
        x.child(0, 0, 0, 0);
        x.child(5, 0, 0, 0);
        x.child(9, 0, 0, 0);
        x.line(Check.LINE, 0, 0, 5, 10);
        x.line(Check.LINE, 0, 9, 9, 10);
        x.line(Check.LINE, 0, 0, 0, 10);
        return x;
    }

    private static void plan() {
        FortyReports x = three();
        Check.due("24 nobody", x.plan(0, 0), 0);
        Check.due("24 child 0: 2 and 1", x.plan(0, 1), 3);
        Check.due("24 child 1", x.plan(1, 1), 1);
        Check.due("24 child 2", x.plan(2, 1), 2);
        Check.due("24 all of them", x.plan((0 * 12 + 1) * 12 + 2, 3), 6);
        Check.due("24 the highest place first", x.plan((2 * 12 + 1) * 12 + 0, 3), 6);
        Check.due("24 n below", x.plan(0, -1), Check.BEYOND);
        Check.due("24 n above", x.plan(0, 7), Check.BEYOND);
        Check.due("24 digits below", x.plan(-1, 2), Check.BEYOND);
        Check.due("24 digits above", x.plan(144, 2), Check.BEYOND);
        Check.due("24 digits above at 6", x.plan(2985984, 6), Check.BEYOND);
        Check.due("24 digits at 6", x.plan(2985983, 6), Check.KIND);
        Check.due("24 digits at 0", x.plan(1, 0), Check.BEYOND);
        Check.due("24 one isn't there", x.plan(3, 1), Check.KIND);
        Check.due("24 told twice", x.plan(0, 2), Check.KIND);
        Check.due("24 told twice, not side by side", x.plan((1 * 12 + 0) * 12 + 1, 3), Check.KIND);
        FortyReports six = Check.withChildren(6);
        six.line(Check.SEEN, 0, 0, 0, 1);
        Check.due("24 six", six.plan(((((5 * 12 + 4) * 12 + 3) * 12 + 2) * 12 + 1) * 12, 6), 0);
    }

    private static void planChangesNothing() {
        FortyReports x = three();
        x.put(0, 1, true);
        x.writer(0, 3);
        x.plan(1, 2);
        x.order(7, -1);
        x.lean(0);
        Check.due("24 tired stays", x.now(0), 3);
        Check.due("24 reports stay", x.of(0, 7), 2);
        Check.due("24 none was written", x.count(2), 1);
        Check.due("24 sex stays", x.of(0, 5), 0);
    }

    private static void planOfBrothers() {
        // what is written first can be copied by the second; while 0 is written line 0 fits nobody
        FortyReports x = Check.withChildren(3);
        x.line(Check.COPIED, 0, 0, 0, 1);
        x.set(1, 6, 0);
        x.set(0, 6, 2);
        x.put(2, 0, true);
        Check.due("24 copied on", x.plan(1, 2), 2 + 1);
        Check.due("24 nothing to copy yet", x.plan(12, 2), 0 + 2);
        x.put(0, 0, true);
        Check.due("24 the own one is none", x.plan(0, 1), 2);
        Check.due("24 reports as they are", x.plan(12, 2), 1 + 2);
    }

    private static void order() {
        FortyReports x = three();
        Check.due("25 most", x.order(7, -1), 6);
        for (int i = 0; i < 3; i++) {
            Check.due("25 the first of several", x.order(7, i), i);
        }
        Check.due("25 a part", x.order(5, 1), 2);
        Check.due("25 no i-th", x.order(7, 3), Check.NONE);
        Check.due("25 no i-th of a part", x.order(5, 2), Check.NONE);
        Check.due("25 of nobody", x.order(0, -1), 0);
        Check.due("25 nobody's first", x.order(0, 0), Check.NONE);
        Check.due("25 what below", x.order(7, -2), Check.BEYOND);
        Check.due("25 what 5", x.order(7, 5), Check.NONE);
        Check.due("25 what above", x.order(7, 6), Check.BEYOND);
        Check.due("25 one isn't there", x.order(8, -1), Check.BEYOND);
        Check.due("25 a set below 0", x.order(-1, -1), Check.BEYOND);
        FortyReports many = Check.withChildren(12);
        Check.due("25 six", many.order(63, 0), Check.SIZE);
        Check.due("25 beyond is asked first", many.order(63, 6), Check.BEYOND);
        Check.due("25 size is asked ahead of none", many.order(4095, 5), Check.SIZE);
        Check.due("25 five", many.order(31 << 7, 4), 11);
        Check.due("25 five have no sixth", many.order(31 << 7, 5), Check.NONE);
        Check.due("25 a 13th", many.order(4096, 0), Check.BEYOND);
    }

    private static void orderOfTheTired() {
        // of the first one alone lines are told: the child of whom most can be said goes ahead
        FortyReports x = three();
        x.writer(1, 1);
        Check.due("25 most by the tired", x.order(6, -1), 2);
        Check.due("25 she goes first", x.order(6, 0), 2);
        Check.due("25 then the other one", x.order(6, 1), 1);
    }

    private static void heap() {
        FortyReports x = new FortyReports();
        for (int i = 0; i < 4; i++) {
            x.child(i, i % 2, 0, 0);
        }
        Check.due("26 of nobody", x.heap(0), 0);
        Check.due("26 of one", x.heap(4), 0);
        Check.due("26 without lines", x.heap(3), Check.NONE);
        x.line(Check.LINE, 0, 0, 0, 1);
        x.line(Check.LINE, 0, 1, 1, 1);
        x.line(Check.LINE, 0, 2, 2, 1);
        Check.due("26 three", x.heap(15), 7);
        x.line(Check.LINE, 1, 0, 0, 1);
        x.line(Check.LINE, 0, 0, 1, 1);
        Check.due("26 two are fewer", x.heap(15), 8 + 16);
        Check.due("26 the least of several", x.heap(3), 1);
        Check.due("26 0 and 2", x.heap(5), 1);
        Check.due("26 2 and 3", x.heap(12), 4);
        Check.due("26 one isn't there", x.heap(16), Check.BEYOND);
        Check.due("26 a set below 0", x.heap(-1), Check.BEYOND);
        x.child(3, 1, 0, 0);
        Check.due("26 not even all", x.heap(24), Check.NONE);
        x.line(Check.COPIED, 0, 0, 0, 1);
        x.set(4, 6, 0);
        x.put(0, 5, true);
        Check.due("26 by a copied one", x.heap(24), 32);
    }

    private static void look() {
        FortyReports x = Check.withChildren(1);
        x.line(Check.SEEN, 0, 0, 0, 1);
        x.line(Check.CODED, 0, 9, 9, 1);
        x.line(Check.SEEN, 0, 1, 9, 1);
        x.line(Check.LEFT, 0, 0, 0, 1);
        Check.due("27 seen enough", x.look(0, 9), 0);
        x.set(0, 4, 1);
        Check.due("27 too little", x.look(0, 1), 0);
        Check.due("27 enough", x.look(0, 2), 1);
        Check.due("27 9 at most", x.look(0, 9), 1);
        Check.due("27 it isn't done", x.of(0, 4), 1);
        x.turn(0, Check.LEFT);
        x.turn(1, Check.LEFT);
        Check.due("27 fewer", x.look(0, 2), -3);
        Check.due("27 n 0", x.look(0, 0), Check.BEYOND);
        Check.due("27 n 10", x.look(0, 10), Check.BEYOND);
        Check.due("27 nobody", x.look(1, 1), Check.BEYOND);
        Check.due("27 nobody below", x.look(-1, 1), Check.BEYOND);
    }

    private static void whom() {
        FortyReports x = Check.withChildren(3);
        x.line(Check.LEFT, 0, 0, 0, 1);
        x.set(0, 4, 0);
        Check.due("28 the least of several", x.whom(3), 1);
        Check.due("28 none changes", x.whom(2), 0);
        x.line(Check.SEEN, 0, 0, 0, 1);
        x.line(Check.SEEN, 0, 0, 0, 1);
        x.set(2, 4, 2);
        Check.due("28 by most", x.whom(1), 2);
        Check.due("28 both by as many", x.whom(3), 0);
        Check.due("28 n 0", x.whom(0), Check.BEYOND);
        Check.due("28 n 10", x.whom(10), Check.BEYOND);
        Check.due("28 no children", new FortyReports().whom(9), Check.NONE);
        Check.due("28 beyond is asked first", new FortyReports().whom(10), Check.BEYOND);
    }

    private static void lean() {
        FortyReports x = Check.withChildren(2);
        x.line(Check.LEANED, 0, 1, 1, 1);
        x.line(Check.LEANED, 0, 3, 3, 1);
        x.line(Check.LEANED, 0, 2, 2, 1);
        Check.due("29 a boy's", x.lean(0), 1);
        x.set(1, 5, 1);
        Check.due("29 a girl's", x.lean(1), -1);
        Check.due("29 sex stays", x.of(1, 5), 1);
        Check.due("29 nobody", x.lean(2), Check.BEYOND);
        Check.due("29 nobody below", x.lean(-1), Check.BEYOND);
        leanBySaying();
    }

    private static void leanBySaying() {
        // as a girl child 0 leaves line 0 saying 1 of 2, worth 16: ahead of those by 1 that say nothing
        FortyReports x = Check.withChildren(2);
        x.line(Check.LEANED, 0, 1, 1, 6);
        x.line(Check.LINE, 0, 0, 9, 5);
        x.line(Check.LINE, 0, 0, 9, 5);
        x.writer(2, 10);
        Check.due("29 says 2 at first", x.lineOf(0, 5), 2);
        Check.due("29 one long line for two short ones", x.lean(0), -1);
    }
}
