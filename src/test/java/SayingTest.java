/** Promises 18 to 23. */
final class SayingTest {
    public static void main(String[] args) {
        whose();
        bits();
        alike();
        swaps();
        plainest();
        wrong();
        Check.end();
    }

    /** So many children, whose work is 0, 1, .. and who are all seen. */
    private static FortyReports row(int n) {
        FortyReports x = new FortyReports();
        for (int i = 0; i < n; i++) {
            x.child(Math.min(i, 9), 0, 0, 0);
        }
        return x;
    }

    private static void whose() {
        FortyReports x = row(4);
        x.line(Check.LINE, 0, 1, 3, 1);
        x.line(Check.LINE, 0, 0, 2, 1);
        x.line(Check.COPIED, 0, 0, 0, 1);
        Check.due("18 of none: all", x.whose(0), 15);
        x.put(0, 0, true);
        Check.due("18 not of itself", x.whose(0), 14);
        x.put(0, 1, true);
        Check.due("18 both", x.whose(0), 6);
        x.put(0, 2, true);
        Check.due("18 copied without brothers", x.whose(0), 0);
        x.set(2, 6, 0);
        Check.due("18 copied by the brother", x.whose(0), 4);
        Check.due("18 nobody", x.whose(4), Check.BEYOND);
        Check.due("18 nobody below", x.whose(-1), Check.BEYOND);
    }

    private static void bits() {
        FortyReports x = row(9);
        int[] due = {3, 2, 1, 1, 0, 0, 0, 0, 0};
        for (int i = 0; i < 9; i++) {
            x.line(Check.LINE, 0, 0, i, 1);
            x.put(i, i, true);
            Check.due("19 of " + (i + 1), x.bits(i), due[i]);
        }
        x.line(Check.LINE, 0, 9, 9, 1);
        x.put(3, 9, true);
        Check.due("19 of nobody", x.bits(3), 0);
        x.tear(1);
        Check.due("19 of all", x.bits(0), 0);
        Check.due("19 nobody", x.bits(9), Check.BEYOND);
        FortyReports eight = row(8);
        eight.line(Check.LINE, 0, 0, 0, 1);
        eight.put(0, 0, true);
        Check.due("19 eight by one", eight.bits(0), 3);
    }

    private static void alike() {
        FortyReports x = row(4);
        x.line(Check.LINE, 0, 1, 2, 1);
        x.line(Check.LINE, 0, 0, 1, 1);
        Check.due("20 of none with all", x.alike(1), 13);
        x.put(1, 0, true);
        x.put(2, 0, true);
        Check.due("20 one way is not enough", x.alike(0), 8);
        Check.due("20 both ways", x.alike(1), 4);
        Check.due("20 both ways, too", x.alike(2), 2);
        x.put(2, 1, true);
        Check.due("20 of reports as they are", x.alike(1), 4);
        x.put(1, 1, true);
        Check.due("20 no more", x.alike(1), 0);
        Check.due("20 nobody", x.alike(4), Check.BEYOND);
        Check.due("20 nobody below", x.alike(-1), Check.BEYOND);
    }

    private static void swaps() {
        FortyReports x = row(12);
        Check.due("21 all", x.swaps(), 66);
        x.line(Check.LINE, 0, 0, 0, 1);
        x.put(0, 0, true);
        Check.due("21 all but those with 0", x.swaps(), 55);
        Check.due("21 of no children", new FortyReports().swaps(), 0);
    }

    private static void plainest() {
        FortyReports x = row(4);
        Check.due("22 the least", x.plainest(), 0);
        x.line(Check.LINE, 0, 0, 0, 1);
        x.put(2, 0, true);
        Check.due("22 the most", x.plainest(), 2);
        x.put(1, 0, true);
        Check.due("22 the least of the most", x.plainest(), 1);
        Check.due("22 no children", new FortyReports().plainest(), Check.NONE);
    }

    private static void wrong() {
        FortyReports x = row(2);
        x.line(Check.LINE, 0, 0, 0, 1);
        x.line(Check.SEEN, 0, 1, 1, 1);
        x.line(Check.LINE, 0, 1, 1, 1);
        Check.due("23 nothing", x.wrong(1), 0);
        x.put(1, 0, true);
        x.put(1, 1, true);
        Check.due("23 one", x.wrong(1), 1);
        x.set(1, 4, 2);
        Check.due("23 now both", x.wrong(1), 3);
        Check.due("23 nobody", x.wrong(2), Check.BEYOND);
        Check.due("23 nobody below", x.wrong(-1), Check.BEYOND);
    }
}
