/** The edges that promises 18 to 23, and what section 2 tells of whom a report can be, name. */
final class SayingEdgesTest {
    public static void main(String[] args) {
        whoseOfNoneAndAll();
        bitsAreCut();
        alikeIsNeverItself();
        alikeGoesBothWays();
        swapsFrom0To66();
        plainestOfSeveral();
        wrongFromNoneToAll();
        Check.end();
    }

    /** So many children of work 0, 1, .. whose reports are none. */
    private static FortyReports row(int n) {
        FortyReports x = new FortyReports();
        for (int i = 0; i < n; i++) {
            x.child(Math.min(i, 9), Math.max(0, i - 9), 0, 0);
        }
        return x;
    }

    private static void whoseOfNoneAndAll() {
        Twins.range("18 child", Scenes::three, 0, 2, (x, v) -> x.whose(v));
        Twins.range("18 child of twelve", Scenes::full, 0, 11, (x, v) -> x.whose(v));
        for (int n = 1; n <= 12; n++) {
            Check.due("18 no lines: all of " + n, row(n).whose(n - 1), (1 << n) - 1);
        }
        FortyReports x = row(12);
        x.line(Check.LINE, 1, 2, 2, 1);
        x.line(Check.LEFT, 0, 0, 0, 1);
        x.line(Check.COPIED, 0, 0, 0, 1);
        x.put(0, 0, true);
        Check.due("18 the last alone", x.whose(0), 2048);
        x.put(0, 1, true);
        Check.due("18 of none", x.whose(0), 0);
        x.put(1, 2, true);
        Check.due("18 nobody has a brother", x.whose(1), 0);
        x.set(11, 6, 1);
        Check.due("18 of the one who copies", x.whose(1), 2048);
        Twins.asks("18 asks only", Scenes::three, y -> y.whose(1), 7);
    }

    private static void bitsAreCut() {
        Twins.range("19 child", Scenes::three, 0, 2, (x, v) -> x.bits(v));
        Twins.range("19 child of twelve", Scenes::full, 0, 11, (x, v) -> x.bits(v));
        for (int n = 1; n <= 12; n++) {
            for (int can = 1; can <= Math.min(n, 10); can++) {
                FortyReports x = row(n);
                // of the children there are, it can be of the first ones
                x.line(Check.LINE, 0, 0, can - 1, 1);
                x.line(Check.LINE, 1, 0, 0, 1);
                x.put(0, 0, true);
                x.put(0, 1, true);
                int share = n / can;
                int due = share >= 8 ? 3 : share >= 4 ? 2 : share >= 2 ? 1 : 0;
                Check.due("19 it can be of " + can, Integer.bitCount(x.whose(0)), can);
                Check.due("19 of " + can + " of " + n, x.bits(0), due);
            }
            FortyReports none = row(n);
            none.line(Check.LEFT, 0, 0, 0, 1);
            none.put(0, 0, true);
            Check.due("19 of none of " + n, none.bits(0), 0);
            Check.due("19 of all of " + n, row(n).bits(n - 1), 0);
        }
        Twins.asks("19 asks only", Scenes::three, x -> x.bits(1), 0);
    }

    private static void alikeIsNeverItself() {
        Twins.range("20 child", Scenes::three, 0, 2, (x, v) -> x.alike(v));
        Twins.range("20 child of twelve", Scenes::full, 0, 11, (x, v) -> x.alike(v));
        for (int n = 1; n <= 12; n++) {
            for (int child = 0; child < n; child++) {
                Check.due("20 all others of " + n, row(n).alike(child), (1 << n) - 1 - (1 << child));
            }
        }
        Twins.asks("20 asks only", Scenes::full, x -> x.alike(11), Twins.built(Scenes::full).alike(11));
    }

    private static void alikeGoesBothWays() {
        FortyReports x = row(2);
        x.line(Check.LINE, 0, 0, 0, 1);
        x.line(Check.LINE, 0, 1, 1, 1);
        x.put(0, 0, true);
        Check.due("20 hers can't be of the other one", x.alike(0), 0);
        Check.due("20 nor are they alike the other way", x.alike(1), 0);
        Check.due("21 so none could be swapped", x.swaps(), 0);
        x.put(1, 1, true);
        Check.due("20 neither of both", x.alike(0), 0);
        x.tear(3);
        Check.due("20 none is like none", x.alike(0), 2);
    }

    private static void swapsFrom0To66() {
        for (int n = 0; n <= 12; n++) {
            Check.due("21 twos of " + n, row(n).swaps(), n * (n - 1) / 2);
        }
        Twins.asks("21 asks only", Scenes::three, x -> x.swaps(), Twins.built(Scenes::three).swaps());
    }

    private static void plainestOfSeveral() {
        Twins.refused("22 no children", Scenes::none, x -> x.plainest(), Check.NONE);
        Twins.refused("22 lines, but no children", Scenes::nobody, x -> x.plainest(), Check.NONE);
        Twins.asks("22 one child", x -> x.child(0, 0, 0, 0), x -> x.plainest(), 0);
        Twins.asks("22 none has bits", Scenes::twelveChildren, x -> x.plainest(), 0);
        for (int child = 0; child < 12; child++) {
            FortyReports x = row(12);
            x.line(Check.LINE, 0, 0, 2, 1);
            x.line(Check.LINE, 0, 0, 5, 1);
            x.line(Check.LEFT, 0, 0, 0, 1);
            x.put(0, 2, true);
            x.put(child, 0, true);
            Check.due("22 most of all, child " + child, x.plainest(), child == 0 ? 0 : child);
            x.put(11, 0, true);
            Check.due("22 of several the least, child " + child, x.plainest(), child == 0 ? 11 : child);
        }
    }

    private static void wrongFromNoneToAll() {
        Twins.range("23 child", Scenes::three, 0, 2, (x, v) -> x.wrong(v));
        Twins.range("23 child of twelve", Scenes::full, 0, 11, (x, v) -> x.wrong(v));
        Twins.asks("23 of no report", Scenes::three, x -> x.wrong(1), 0);
        Twins.asks("23 of hers", Scenes::three, x -> x.wrong(2), 32);
        FortyReports x = Check.withChildren(1);
        for (int line = 0; line < 12; line++) {
            x.line(Check.SEEN, 0, 0, 0, 1);
            x.put(0, line, true);
        }
        Check.due("23 none", x.wrong(0), 0);
        x.set(0, 4, 2);
        Check.due("23 all twelve", x.wrong(0), 4095);
        x.put(0, 11, false);
        Check.due("23 only of the report", x.wrong(0), 2047);
    }
}
