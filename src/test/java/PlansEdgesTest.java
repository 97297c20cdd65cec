/** The edges that promises 24 to 29, and what section 2 tells of plans, name. */
final class PlansEdgesTest {
    public static void main(String[] args) {
        planOfUpToSix();
        digitsBelow12ToTheN();
        planAsksWhoIsThere();
        planFromTheHighestPlaceOn();
        planIsAsItIsNow();
        orderAsksForItsFindingsInOrder();
        orderOfNoneToFive();
        orderOfSeveralTheFirst();
        heapOfNobodyAndOfOne();
        heapOfAllTwelve();
        heapOfSeveralTheLeast();
        lookBy1To9();
        lookUpTo9();
        whomBy1To9();
        whomOfSeveralTheLeast();
        leanOfNone();
        leanBothWays();
        Check.end();
    }

    private static void planOfUpToSix() {
        Twins.beyond("24 n", Scenes::full, 0, 6, (x, v) -> x.plan(0, v));
        int digits = 0;
        for (int n = 0; n <= 6; n++) {
            int order = digits;
            int first = n;
            Twins.taken("24 n " + n, Scenes::full, x -> x.plan(order, first));
            // children 11, 10, .. one by one
            digits = digits * 12 + 11 - n;
        }
        Twins.asks("24 n 0", Scenes::full, x -> x.plan(0, 0), 0);
        Twins.refused("24 n 7, and somebody twice", Scenes::full, x -> x.plan(0, 7), Check.BEYOND);
        Twins.refused("24 n -1, and nobody", Scenes::none, x -> x.plan(0, -1), Check.BEYOND);
    }

    private static void digitsBelow12ToTheN() {
        int plans = 1;
        for (int n = 0; n <= 6; n++) {
            int of = n;
            int last = plans - 1;
            Twins.beyond("24 digits of " + n, Scenes::full, 0, last, (x, v) -> x.plan(v, of));
            if (n >= 2) {
                Twins.refused("24 child 11 twice, of " + n, Scenes::full, x -> x.plan(last, of), Check.KIND);
                Twins.refused("24 child 0 twice, of " + n, Scenes::full, x -> x.plan(0, of), Check.KIND);
            } else {
                Twins.taken("24 the last digits of " + n, Scenes::full, x -> x.plan(last, of));
                Twins.taken("24 the first digits of " + n, Scenes::full, x -> x.plan(0, of));
            }
            plans *= 12;
        }
        Twins.refused("24 12 to the 6", Scenes::full, x -> x.plan(2985984, 6), Check.BEYOND);
        Twins.refused("24 one less", Scenes::full, x -> x.plan(2985983, 6), Check.KIND);
        Twins.refused("24 six of seven digits", Scenes::full, x -> x.plan(35831807, 6), Check.BEYOND);
        Twins.refused("24 beyond ahead of one who isn't there", Scenes::three, x -> x.plan(12 + 5, 1), Check.BEYOND);
        Twins.refused("24 below 0", Scenes::three, x -> x.plan(-12, 1), Check.BEYOND);
        Twins.refused("24 digits of nobody", Scenes::none, x -> x.plan(1, 0), Check.BEYOND);
    }

    private static void planAsksWhoIsThere() {
        Twins.taken("24 the last one", Scenes::three, x -> x.plan(2, 1));
        for (int child = 3; child < 12; child++) {
            int nobody = child;
            Twins.refused("24 child " + child, Scenes::three, x -> x.plan(nobody, 1), Check.KIND);
            Twins.refused("24 child " + child + " first", Scenes::three, x -> x.plan(nobody * 12, 2), Check.KIND);
            Twins.refused("24 child " + child + " last", Scenes::three, x -> x.plan(12 + nobody, 2), Check.KIND);
        }
        Twins.refused("24 twice side by side", Scenes::three, x -> x.plan(12 + 1, 2), Check.KIND);
        Twins.refused("24 twice, first and last", Scenes::three, x -> x.plan(12 * 12 + 1, 3), Check.KIND);
        Twins.refused("24 more than there are", Scenes::three, x -> x.plan((12 + 2) * 12, 4), Check.KIND);
        Twins.taken("24 0 ahead is child 0", Scenes::three, x -> x.plan(1, 2));
    }

    private static void planFromTheHighestPlaceOn() {
        // of each child another line says something, and the writer can tell of one child alone
        FortyReports x = new FortyReports();
        for (int i = 0; i < 12; i++) {
            x.child(i % 10, i / 10, 0, 0);
            x.line(Check.LINE, 0, i % 10, 9, 1);
        }
        x.writer(1, 1);
        int[] alone = new int[12];
        for (int i = 0; i < 12; i++) {
            for (int line = 0; line < 12; line++) {
                x.put(i, line, true);
            }
            alone[i] = x.plan(i, 1);
            Check.due("24 the last place, child " + i, alone[i], x.order(1 << i, -1));
        }
        for (int i = 0; i < 12; i++) {
            int j = (i + 5) % 12;
            Check.due("24 the first of two, " + i, x.plan(i * 12 + j, 2), alone[i]);
            int digits = i;
            for (int k = 1; k < 6; k++) {
                digits = digits * 12 + (i + k) % 12;
            }
            Check.due("24 the first of six, " + i, x.plan(digits, 6), alone[i]);
        }
        Check.due("24 of the first child line 0 alone: nothing", alone[0], 0);
        Check.due("24 of child 9 the six that say most", alone[9], 11 + 10 + 9 + 8 + 7 + 6);
    }

    private static void planIsAsItIsNow() {
        // the first report makes the writer too tired for the second one
        FortyReports x = Check.withChildren(3);
        x.set(2, 0, 9);
        x.line(Check.LINE, 0, 0, 0, 1);
        x.writer(0, 18);
        Check.due("24 tired 18: both are written well", x.plan(1, 1) + x.plan(0, 1), 2);
        Check.due("24 but not one behind the other", x.plan(1, 2), 1);
        x.writer(0, 17);
        Check.due("24 tired 17", x.plan(1, 2), 2);
        x.writer(0, 20);
        Check.due("24 tired 20", x.plan(1, 2), 0);
        x.writer(0, 0);
        Check.due("24 nobody is more tired than before", x.plan(1, 2), 2);
        // line 0 is copied by 0 from 2, and by 1 from 0; the report of 0 is none while it is written
        FortyReports z = Check.withChildren(3);
        z.line(Check.COPIED, 0, 0, 0, 1);
        z.set(0, 6, 2);
        z.set(1, 6, 0);
        z.put(2, 0, true);
        z.put(0, 0, true);
        Check.due("24 the own one is none meanwhile", z.plan(0, 1), 2);
        Check.due("24 then it is what was written", z.plan(1, 2), 2 + 1);
        Check.due("24 and as it is now ahead of that", z.plan(12, 2), 1 + 2);
        z.tear(4);
        Check.due("24 none is left of it", z.plan(1, 2), 0);
        Check.due("24 but it could be copied first", z.plan(12, 2), 2);
        Twins.taken("24 asks only", Scenes::full, y -> y.plan((11 * 12 + 10) * 12 + 3, 3));
        Twins.leaveTheSame("24 asks only", Scenes::full, y -> y.plan((11 * 12 + 10) * 12 + 3, 3), y -> 0);
    }

    private static void orderAsksForItsFindingsInOrder() {
        Twins.beyond("25 set", Scenes::three, 0, 7, (x, v) -> x.order(v, -1));
        Twins.beyond("25 set of twelve", Scenes::full, 0, 4095, (x, v) -> x.order(v, -1));
        Twins.beyond("25 what", Scenes::three, -1, 5, (x, v) -> x.order(7, v));
        Twins.beyond("25 what of five", Scenes::full, -1, 5, (x, v) -> x.order(31, v));
        Twins.beyond("25 what of twelve", Scenes::full, -1, 5, (x, v) -> x.order(4095, v));
        Twins.beyond("25 what of nobody", Scenes::none, -1, 5, (x, v) -> x.order(0, v));
        Twins.refused("25 the set is asked ahead of none", Scenes::three, x -> x.order(8, 5), Check.BEYOND);
        Twins.refused("25 beyond is asked ahead of size", Scenes::full, x -> x.order(4096 + 63, 0), Check.BEYOND);
        for (int what = -1; what <= 5; what++) {
            int i = what;
            Twins.refused("25 six, what " + what, Scenes::full, x -> x.order(63, i), Check.SIZE);
            Twins.refused("25 twelve, what " + what, Scenes::full, x -> x.order(4095, i), Check.SIZE);
        }
        Twins.refused("25 any six", Scenes::full, x -> x.order(63 << 6, 0), Check.SIZE);
    }

    private static void orderOfNoneToFive() {
        for (int size = 0; size <= 5; size++) {
            int set = (1 << size) - 1;
            for (int what = -1; what <= 5; what++) {
                int i = what;
                if (what < size) {
                    Twins.taken("25 of " + size + ", what " + what, Scenes::full, x -> x.order(set, i));
                    Twins.taken("25 the last of " + size, Scenes::full, x -> x.order(set << 12 - Integer.bitCount(set), i));
                } else {
                    Twins.refused("25 of " + size + ", what " + what, Scenes::full, x -> x.order(set, i), Check.NONE);
                }
            }
        }
        Twins.asks("25 nobody says nothing", Scenes::full, x -> x.order(0, -1), 0);
        for (int i = 0; i < 5; i++) {
            int place = i;
            Twins.asks("25 none says anything: by numbers", Scenes::twelveChildren, x -> x.order(31 << 7, place), 7 + i);
        }
        Twins.asks("25 one alone", Scenes::full, x -> x.order(2048, 0), 11);
        Twins.leaveTheSame("25 asks only", Scenes::full, x -> x.order(31 << 7, -1), x -> 0);
        FortyReports x = Twins.built(Scenes::full);
        int told = 0;
        for (int i = 0; i < 5; i++) {
            told |= 1 << x.order(31 << 7, i);
        }
        Check.due("25 each of them once", told, 31 << 7);
    }

    private static void orderOfSeveralTheFirst() {
        // the writer can tell of one child alone; of these two as much can be told
        FortyReports x = Check.withChildren(4);
        x.set(3, 0, 9);
        x.line(Check.LINE, 0, 0, 0, 1);
        x.writer(1, 1);
        int[] due = {0, 1, 2, 3};
        for (int i = 0; i < 4; i++) {
            Check.due("25 by numbers, " + i, x.order(15, i), due[i]);
        }
        // of child 3 most can be told; those behind her come by their numbers
        x.line(Check.LINE, 0, 9, 9, 1);
        int[] then = {3, 0, 1, 2};
        for (int i = 0; i < 4; i++) {
            Check.due("25 the best, then by numbers, " + i, x.order(15, i), then[i]);
        }
        Check.due("25 says 3", x.order(15, -1), 3);
        Check.due("25 others say 1", x.order(7, -1), 1);
        // each order begins with reports as they are now: 1 can copy from 0 as long as 0 isn't written
        FortyReports y = Check.withChildren(2);
        y.line(Check.COPIED, 0, 0, 0, 1);
        y.set(1, 6, 0);
        y.put(0, 0, true);
        Check.due("25 copied in time", y.order(3, -1), 1);
        Check.due("25 who copies first", y.order(3, 0), 1);
        Check.due("25 and then who is copied", y.order(3, 1), 0);
    }

    private static void heapOfNobodyAndOfOne() {
        Twins.range("26 set", Scenes::three, 0, 7, (x, v) -> x.heap(v));
        Twins.beyond("26 set of twelve", Scenes::full, 0, 4095, (x, v) -> x.heap(v));
        Twins.refused("26 of all of them, some of whom don't differ", Scenes::full, x -> x.heap(4095), Check.NONE);
        Twins.asks("26 of nobody", Scenes::three, x -> x.heap(0), 0);
        for (int child = 0; child < 12; child++) {
            int one = 1 << child;
            Twins.asks("26 of one, without lines", Scenes::twelveChildren, x -> x.heap(one), 0);
            Twins.asks("26 of one, with lines", Scenes::full, x -> x.heap(one), 0);
        }
        Twins.refused("26 of two, without lines", Scenes::twelveChildren, x -> x.heap(3), Check.NONE);
        Twins.refused("26 of all, without lines", Scenes::twelveChildren, x -> x.heap(4095), Check.NONE);
        Twins.refused("26 beyond is asked ahead of none", Scenes::twelveChildren, x -> x.heap(4096 + 3), Check.BEYOND);
        Twins.refused("26 of nobody, but one isn't there", Scenes::none, x -> x.heap(2048), Check.BEYOND);
        Twins.leaveTheSame("26 asks only", Scenes::full, x -> x.heap(4095), x -> 0);
    }

    private static void heapOfAllTwelve() {
        // each line fits one of twelve: eleven of them are enough, and the least are those
        FortyReports x = new FortyReports();
        for (int i = 0; i < 12; i++) {
            x.child(i % 10, i / 10, 0, 0);
            x.line(Check.COPIED, 0, 0, 0, 1);
        }
        for (int i = 0; i < 12; i++) {
            x.set(i, 6, (i + 1) % 12);
            x.put((i + 1) % 12, i, true);
        }
        Check.due("26 eleven of twelve", x.heap(4095), 2047);
        Check.due("26 all but the first child", x.heap(4094), 2046);
        x.tear(1 << 11);
        Check.due("26 one fits nobody", x.heap(4095), 2047 - 1024 + 2048);
        x.tear(1 << 10);
        Check.due("26 two fit nobody", x.heap(4095), Check.NONE);
        Check.due("26 but of those who differ", x.heap(3 + 2048), 1 + 2);
    }

    private static void heapOfSeveralTheLeast() {
        FortyReports x = new FortyReports();
        x.child(0, 0, 0, 0);
        x.child(1, 0, 0, 0);
        x.child(2, 0, 0, 0);
        x.line(Check.HEAPED, 0, 0, 0, 1);
        x.line(Check.LINE, 0, 1, 2, 1);
        x.line(Check.LINE, 0, 0, 0, 1);
        x.line(Check.LINE, 0, 2, 2, 1);
        Check.due("26 lines 1 and 3, not 2 and 3", x.heap(7), 2 + 8);
        Check.due("26 line 1, not 2", x.heap(3), 2);
        Check.due("26 line 1, not 3", x.heap(5), 2);
        Check.due("26 line 3 alone", x.heap(6), 8);
        x.set(0, 1, 9);
        x.set(1, 1, 9);
        x.set(1, 4, 0);
        x.line(Check.LEFT, 0, 0, 0, 1);
        Check.due("26 fewer ahead of less: still two, the least", x.heap(7), 2 + 8);
        x.turn(1, Check.HEAPED);
        x.turn(2, Check.HEAPED);
        Check.due("26 those that are left", x.heap(7), 8 + 16);
        x.turn(4, Check.HEAPED);
        Check.due("26 not even all", x.heap(7), Check.NONE);
        Check.due("26 for some of them", x.heap(5), 8);
    }

    private static void lookBy1To9() {
        Twins.range("27 n", Scenes::three, 1, 9, (x, v) -> x.look(2, v));
        Twins.range("27 child", Scenes::three, 0, 2, (x, v) -> x.look(v, 1));
        Twins.range("27 child of twelve", Scenes::full, 0, 11, (x, v) -> x.look(v, 9));
        Twins.refused("27 both", Scenes::none, x -> x.look(0, 0), Check.BEYOND);
        Twins.asks("27 asks only", Scenes::three, x -> x.look(2, 1), -1);
        Twins.asks("27 without lines", Scenes::twelveChildren, x -> x.look(11, 9), 0);
    }

    private static void lookUpTo9() {
        FortyReports x = Check.withChildren(1);
        x.line(Check.SEEN, 0, 0, 0, 1);
        x.line(Check.CODED, 0, 9, 9, 1);
        x.line(Check.LEFT, 0, 0, 0, 1);
        for (int seen = 0; seen < 10; seen++) {
            x.set(0, 4, seen);
            for (int n = 1; n < 10; n++) {
                int due = seen < 3 && seen + n >= 3 ? 1 : 0;
                Check.due("27 from " + seen + " by " + n, x.look(0, n), due);
            }
        }
        FortyReports y = Check.withChildren(1);
        for (int line = 0; line < 12; line++) {
            y.line(Check.LEFT, 0, 0, 0, 1);
        }
        y.set(0, 4, 2);
        Check.due("27 fewer by twelve", y.look(0, 1), -12);
        for (int line = 0; line < 12; line++) {
            y.turn(line, Check.SEEN);
        }
        Check.due("27 more by twelve", y.look(0, 1), 12);
    }

    private static void whomBy1To9() {
        Twins.range("28 n", Scenes::three, 1, 9, (x, v) -> x.whom(v));
        Twins.refused("28 no children", Scenes::none, x -> x.whom(9), Check.NONE);
        Twins.refused("28 lines, but no children", Scenes::nobody, x -> x.whom(1), Check.NONE);
        Twins.beyond("28 n is asked ahead of none", Scenes::nobody, 1, 9, (x, v) -> x.whom(v));
        Twins.asks("28 asks only", Scenes::three, x -> x.whom(1), 0);
    }

    private static void whomOfSeveralTheLeast() {
        Twins.asks("28 without lines", Scenes::twelveChildren, x -> x.whom(9), 0);
        for (int child = 0; child < 12; child++) {
            FortyReports x = Twins.built(Scenes::twelveChildren);
            x.line(Check.SEEN, 0, 0, 9, 1);
            x.set(child, 4, 2);
            Check.due("28 by 1, child " + child, x.whom(1), child);
            x.set(11, 4, 0);
            Check.due("28 of two the least, child " + child, x.whom(3), child);
            x.turn(0, Check.LEFT);
            Check.due("28 by none, not by fewer, child " + child, x.whom(3), child == 0 ? 1 : 0);
        }
        FortyReports one = Check.withChildren(1);
        one.line(Check.LEFT, 0, 0, 0, 1);
        one.set(0, 4, 2);
        Check.due("28 by fewer, but nobody else", one.whom(1), 0);
        one.child(0, 0, 0, 0);
        one.set(1, 4, 1);
        Check.due("28 the one who loses none yet", one.whom(1), 1);
        Check.due("28 both lose one", one.whom(2), 0);
    }

    private static void leanOfNone() {
        Twins.range("29 child", Scenes::three, 0, 2, (x, v) -> x.lean(v));
        Twins.range("29 child of twelve", Scenes::full, 0, 11, (x, v) -> x.lean(v));
        Twins.asks("29 without lines", Scenes::twelveChildren, x -> x.lean(11), 0);
        Twins.asks("29 without leaned ones", x -> {
            Scenes.full(x);
            x.turn(3, Check.LEFT);
            x.turn(10, Check.LEFT);
        }, x -> x.lean(0), 0);
        Twins.leaveTheSame("29 asks only", Scenes::three, x -> x.lean(1), x -> 0);
    }

    private static void leanBothWays() {
        for (int n = 1; n <= 12; n++) {
            FortyReports x = Check.withChildren(1);
            for (int line = 0; line < n; line++) {
                x.line(Check.LEANED, 0, 1, 1, 1);
            }
            Check.due("29 more, six at most", x.lean(0), Math.min(6, n));
            x.set(0, 5, 1);
            Check.due("29 fewer", x.lean(0), -Math.min(6, n));
        }
        FortyReports both = Check.withChildren(1);
        both.line(Check.LEANED, 0, 0, 0, 1);
        both.line(Check.LEANED, 0, 1, 1, 1);
        both.line(Check.LEANED, 0, 3, 3, 1);
        Check.due("29 two for one", both.lean(0), 1);
        both.set(0, 5, 1);
        Check.due("29 one for two", both.lean(0), -1);
        both.turn(2, Check.LEFT);
        Check.due("29 one for one", both.lean(0), 0);
        FortyReports x = Check.withChildren(1);
        x.line(Check.LINE, 0, 0, 0, 1);
        x.line(Check.LEANED, 0, 1, 1, 1);
        x.writer(0, 99);
        Check.due("29 as tired as now, both times", x.lean(0), 1);
        x.put(0, 0, true);
        Check.due("29 not by the report that stands", x.lean(0), 1);
    }
}
