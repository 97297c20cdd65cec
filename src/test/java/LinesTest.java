/** Promises 5 to 10. */
final class LinesTest {
    public static void main(String[] args) {
        line();
        lineOf();
        as();
        turn();
        fits();
        all();
        Check.end();
    }

    private static void line() {
        FortyReports x = new FortyReports();
        Check.due("5 first", x.line(6, 3, 0, 9, 40), 0);
        Check.due("5 kind below", x.line(-1, 0, 0, 0, 1), Check.BEYOND);
        Check.due("5 kind above", x.line(7, 0, 0, 0, 1), Check.BEYOND);
        Check.due("5 trait below", x.line(0, -1, 0, 0, 1), Check.BEYOND);
        Check.due("5 trait above", x.line(0, 4, 0, 0, 1), Check.BEYOND);
        Check.due("5 low below", x.line(0, 0, -1, 0, 1), Check.BEYOND);
        Check.due("5 high above", x.line(0, 0, 0, 10, 1), Check.BEYOND);
        Check.due("5 low above high", x.line(0, 0, 6, 5, 1), Check.BEYOND);
        Check.due("5 low above 9", x.line(0, 0, 10, 10, 1), Check.BEYOND);
        Check.due("5 no words", x.line(0, 0, 0, 0, 0), Check.BEYOND);
        Check.due("5 too many words", x.line(0, 0, 0, 0, 41), Check.BEYOND);
        for (int i = 1; i < 12; i++) {
            Check.due("5 next", x.line(i % 7, i % 4, 5, 5, i), i);
        }
        Check.due("5 full, asked last", x.line(0, 0, 0, 0, 41), Check.BEYOND);
        Check.due("5 full", x.line(0, 0, 0, 0, 1), Check.FULL);
        Check.due("5 count", x.count(1), 12);
    }

    private static void lineOf() {
        FortyReports x = Check.withChildren(2);
        x.set(1, 2, 9);
        Check.due("6 line", x.line(Check.LINE, 2, 3, 9, 7), 0);
        int[] due = {0, 2, 3, 9, 7, 1, 11};
        for (int what = 0; what < 7; what++) {
            Check.due("6 what " + what, x.lineOf(0, what), due[what]);
        }
        Check.due("6 what below", x.lineOf(0, -1), Check.BEYOND);
        Check.due("6 what above", x.lineOf(0, 7), Check.BEYOND);
        Check.due("6 no line", x.lineOf(1, 0), Check.BEYOND);
        Check.due("6 line below", x.lineOf(-1, 0), Check.BEYOND);
        worths();
        x.years(4);
        Check.due("6 wear leaves lines alone", x.lineOf(0, 6), 11);
    }

    private static void worths() {
        // three children of sex 0, without brothers, all of whose traits are 0
        FortyReports x = Check.withChildren(3);
        for (int kind = 0; kind < 7; kind++) {
            x.line(kind, 0, 1, 2, 4);
        }
        int[] says = {3, 3, 0, 3, 3, 3, 3};
        int[] worth = {31, 36, -3, 28, 54, 33, 0};
        int[] worn = {31, 36, -13, 18, 34, 33, 0};
        for (int kind = 0; kind < 7; kind++) {
            Check.due("6 says " + kind, x.lineOf(kind, 5), says[kind]);
            Check.due("6 worth " + kind, x.lineOf(kind, 6), worth[kind]);
        }
        x.years(10);
        for (int kind = 0; kind < 7; kind++) {
            if (kind != Check.CODED) {
                Check.due("6 worn " + kind, x.lineOf(kind, 6), worn[kind]);
            }
        }
        FortyReports none = new FortyReports();
        none.line(Check.COPIED, 0, 0, 0, 9);
        Check.due("6 says of nobody", none.lineOf(0, 5), 0);
        Check.due("6 copied below 0", none.lineOf(0, 6), -16);
    }

    private static void as() {
        FortyReports x = Check.withChildren(3);
        // for each kind those as which it may be taken, by bits
        int[] may = {1, 3, 5, 13, 21, 35, 65};
        int[] worth = {31, 36, -3, 28, 54, 33, 0};
        for (int kind = 0; kind < 7; kind++) {
            x.line(kind, 0, 1, 2, 4);
            for (int as = 0; as < 7; as++) {
                int due = (may[kind] >> as & 1) == 1 ? worth[kind] : Check.KIND;
                Check.due("7 " + kind + " as " + as, x.as(kind, as), due);
            }
        }
        Check.due("7 no line", x.as(7, 0), Check.BEYOND);
        Check.due("7 no kind", x.as(0, 7), Check.BEYOND);
        Check.due("7 kind below", x.as(0, -1), Check.BEYOND);
    }

    private static void turn() {
        FortyReports x = Check.withChildren(1);
        x.line(Check.CODED, 1, 2, 3, 4);
        x.put(0, 0, true);
        Check.due("8 was", x.turn(0, Check.HEAPED), Check.CODED);
        Check.due("8 is", x.lineOf(0, 0), Check.HEAPED);
        for (int what = 1; what < 5; what++) {
            Check.due("8 else alike", x.lineOf(0, what), what);
        }
        Check.due("8 report stays", x.of(0, 7), 1);
        Check.due("8 fits as it is now", x.fits(0, 0), 1);
        Check.due("8 to the same", x.turn(0, Check.HEAPED), Check.HEAPED);
        Check.due("8 no kind", x.turn(0, 7), Check.BEYOND);
        Check.due("8 no line", x.turn(1, 0), Check.BEYOND);
        Check.due("8 stays", x.lineOf(0, 0), Check.HEAPED);
    }

    private static void fits() {
        FortyReports x = new FortyReports();
        x.child(4, 7, 0, 0);
        for (int kind = 0; kind < 7; kind++) {
            x.line(kind, 1, 2, 7, 1);
        }
        // conduct 7 is 2 to 7, and 9 less it, 2, is too; the sex is 0 as the rest of 2
        fitsAre(x, "at first", 1, 1, 1, 1, 0, 1, 0);
        x.set(0, 4, 3);
        fitsAre(x, "seen 3", 1, 1, 1, 1, 0, 1, 0);
        x.set(0, 4, 2);
        fitsAre(x, "seen 2", 1, 0, 1, 1, 0, 0, 1);
        x.set(0, 4, 9);
        x.set(0, 1, 8);
        fitsAre(x, "above", 0, 0, 1, 1, 0, 0, 0);
        x.set(0, 1, 2);
        fitsAre(x, "low", 1, 1, 1, 1, 0, 1, 0);
        x.set(0, 1, 1);
        x.set(0, 5, 1);
        fitsAre(x, "below, a girl", 0, 0, 1, 0, 0, 0, 0);
        x.child(0, 0, 0, 0);
        x.put(1, Check.COPIED, true);
        fitsAre(x, "no brother", 0, 0, 1, 0, 0, 0, 0);
        x.set(0, 6, 1);
        fitsAre(x, "copied", 0, 0, 1, 0, 1, 0, 0);
        Check.due("9 no line", x.fits(7, 0), Check.BEYOND);
        Check.due("9 line below", x.fits(-1, 0), Check.BEYOND);
        Check.due("9 nobody", x.fits(0, 2), Check.BEYOND);
        Check.due("9 nobody below", x.fits(0, -1), Check.BEYOND);
        coded();
    }

    private static void coded() {
        FortyReports x = new FortyReports();
        x.child(1, 0, 0, 0);
        x.line(Check.CODED, 0, 8, 9, 1);
        x.line(Check.CODED, 0, 0, 7, 1);
        Check.due("9 coded", x.fits(0, 0), 1);
        Check.due("9 coded not", x.fits(1, 0), 0);
    }

    private static void fitsAre(FortyReports x, String when, int... due) {
        for (int kind = 0; kind < 7; kind++) {
            Check.due("9 " + when + ", kind " + kind, x.fits(kind, 0), due[kind]);
        }
    }

    private static void all() {
        FortyReports x = Check.withChildren(2);
        Check.due("10 none", x.all(1), 0);
        x.line(Check.HEAPED, 0, 0, 0, 1);
        x.line(Check.LINE, 0, 1, 9, 1);
        x.line(Check.LEANED, 0, 1, 1, 1);
        x.line(Check.COPIED, 0, 0, 0, 1);
        x.set(1, 0, 5);
        x.set(1, 5, 1);
        x.set(1, 6, 0);
        Check.due("10 of 0", x.all(0), 1);
        Check.due("10 of 1", x.all(1), 7);
        x.put(0, 3, true);
        Check.due("10 copied", x.all(1), 15);
        Check.due("10 own report doesn't matter", x.all(0), 1);
        Check.due("10 nobody", x.all(2), Check.BEYOND);
        Check.due("10 nobody below", x.all(-1), Check.BEYOND);
    }
}
