/** Promises 11 to 17. */
final class WriterTest {
    public static void main(String[] args) {
        writer();
        report();
        reportByWorth();
        reportOfTheTired();
        reportOfBrothers();
        rest();
        tear();
        put();
        years();
        now();
        Check.end();
    }

    private static void writer() {
        FortyReports x = new FortyReports();
        Check.due("11 tired", x.writer(0, 99), 0);
        Check.due("11 tired again", x.writer(0, 0), 99);
        Check.due("11 patience", x.writer(1, 1), 20);
        Check.due("11 length", x.writer(2, 99), 60);
        Check.due("11 tired below", x.writer(0, -1), Check.BEYOND);
        Check.due("11 tired above", x.writer(0, 100), Check.BEYOND);
        Check.due("11 patience 0", x.writer(1, 0), Check.BEYOND);
        Check.due("11 patience above", x.writer(1, 100), Check.BEYOND);
        Check.due("11 length 0", x.writer(2, 0), Check.BEYOND);
        Check.due("11 length above", x.writer(2, 100), Check.BEYOND);
        Check.due("11 wear can't be set", x.writer(3, 1), Check.BEYOND);
        Check.due("11 what below", x.writer(-1, 1), Check.BEYOND);
        Check.due("11 patience is", x.now(1), 1);
        Check.due("11 length is", x.now(2), 99);
        Check.due("11 findings", x.status(0), 8);
    }

    private static void report() {
        FortyReports x = Check.withChildren(1);
        for (int i = 0; i < 8; i++) {
            x.line(Check.LINE, 0, 0, 0, 1);
        }
        Check.due("12 six at most", x.report(0), 6);
        Check.due("12 the least of several", x.of(0, 7), 63);
        Check.due("12 tired", x.now(0), 7);
        x.writer(2, 4);
        Check.due("12 length", x.report(0), 4);
        Check.due("12 in place of the old one", x.of(0, 7), 15);
        Check.due("12 tired more", x.now(0), 12);
        x.writer(0, 97);
        x.writer(1, 99);
        Check.due("12 again", x.report(0), 4);
        Check.due("12 tired 99 at most", x.now(0), 99);
        Check.due("12 nobody", x.report(1), Check.BEYOND);
        Check.due("12 nobody below", x.report(-1), Check.BEYOND);
        Check.due("12 a finding tires not", x.now(0), 99);
    }

    private static void reportByWorth() {
        // what is worth most comes first; what has too many words is left aside, and others come yet
        FortyReports x = Check.withChildren(2);
        x.set(1, 0, 9);
        x.line(Check.LINE, 0, 0, 9, 30);
        x.line(Check.LINE, 0, 0, 0, 31);
        x.line(Check.SEEN, 0, 0, 0, 20);
        x.line(Check.LEFT, 0, 0, 0, 1);
        x.line(Check.LINE, 0, 0, 0, 10);
        Check.due("12 worth 1", x.lineOf(0, 6), 1);
        Check.due("12 worth 16", x.lineOf(2, 6), 16);
        Check.due("12 by worth", x.report(0), 2);
        Check.due("12 seen, and the line of 31", x.of(0, 7), 6);
        x.writer(2, 61);
        Check.due("12 one more word", x.report(0), 3);
        Check.due("12 and that of 10", x.of(0, 7), 22);
        x.writer(2, 9);
        Check.due("12 none is short enough", x.report(0), 0);
        Check.due("12 none", x.of(0, 7), 0);
        Check.due("12 tired 1 more by none", x.now(0), 3 + 4 + 1);
    }

    private static void reportOfTheTired() {
        FortyReports x = Check.withChildren(1);
        for (int kind = 0; kind < 7; kind++) {
            x.line(kind, 0, 0, 9, 5);
        }
        x.writer(0, 19);
        Check.due("12 below patience", x.report(0), 5);
        Check.due("12 all that fit", x.of(0, 7), 1 + 2 + 4 + 8 + 32);
        x.writer(0, 20);
        Check.due("12 as patience", x.report(0), 2);
        Check.due("12 heaped ones", x.of(0, 7), 4 + 8);
        Check.due("12 tired", x.now(0), 23);
    }

    private static void reportOfBrothers() {
        FortyReports x = Check.withChildren(2);
        x.set(0, 6, 1);
        x.set(1, 6, 0);
        x.line(Check.COPIED, 0, 0, 0, 3);
        x.line(Check.HEAPED, 0, 0, 0, 3);
        x.put(1, 0, true);
        Check.due("12 copied from the brother", x.report(0), 2);
        Check.due("12 and heaped", x.of(0, 7), 3);
        x.put(1, 0, false);
        Check.due("12 not out of the own one", x.report(0), 1);
        Check.due("12 heaped alone", x.of(0, 7), 2);
        ownIsNone();
    }

    private static void ownIsNone() {
        // the own report is none while it is written: so line 0 says 2, not 1, and is worth more than line 1
        FortyReports x = Check.withChildren(3);
        x.set(1, 6, 0);
        x.set(0, 6, 2);
        x.line(Check.COPIED, 0, 0, 0, 11);
        x.line(Check.SEEN, 1, 0, 0, 60 - 20);
        x.set(1, 1, 9);
        x.put(0, 0, true);
        x.put(2, 0, true);
        Check.due("12 as it stands it says 1", x.lineOf(0, 5), 1);
        Check.due("12 and is worth 0", x.lineOf(0, 6), 0);
        Check.due("12 the other one 16", x.lineOf(1, 6), 16);
        x.writer(2, 40);
        Check.due("12 while written it is worth 20", x.report(0), 1);
        Check.due("12 so it comes first", x.of(0, 7), 1);
    }

    private static void rest() {
        FortyReports x = new FortyReports();
        x.writer(0, 50);
        Check.due("13 less", x.rest(1), 49);
        Check.due("13 0 at least", x.rest(99), 0);
        Check.due("13 n 0", x.rest(0), Check.BEYOND);
        Check.due("13 n 100", x.rest(100), Check.BEYOND);
        Check.due("13 n below", x.rest(Integer.MIN_VALUE), Check.BEYOND);
    }

    private static void tear() {
        FortyReports x = Check.withChildren(3);
        x.line(Check.LINE, 0, 0, 0, 1);
        x.put(0, 0, true);
        x.put(2, 0, true);
        Check.due("14 nobody's", x.tear(0), 0);
        Check.due("14 one had lines", x.tear(3), 1);
        Check.due("14 none now", x.of(0, 7), 0);
        Check.due("14 others stay", x.of(2, 7), 1);
        Check.due("14 one isn't there", x.tear(12), Check.BEYOND);
        Check.due("14 below 0", x.tear(-1), Check.BEYOND);
        Check.due("14 stays", x.of(2, 7), 1);
        Check.due("14 all", x.tear(7), 1);
    }

    private static void put() {
        FortyReports x = Check.withChildren(2);
        x.line(Check.LINE, 0, 9, 9, 1);
        x.line(Check.LINE, 0, 0, 0, 1);
        Check.due("15 out, wasn't in", x.put(1, 0, false), 0);
        Check.due("15 in", x.put(1, 0, true), 1);
        Check.due("15 in again", x.put(1, 0, true), 0);
        Check.due("15 another", x.put(1, 1, true), 1);
        Check.due("15 report", x.of(1, 7), 3);
        Check.due("15 out", x.put(1, 0, false), 1);
        Check.due("15 report then", x.of(1, 7), 2);
        Check.due("15 the other child's", x.of(0, 7), 0);
        Check.due("15 nobody", x.put(2, 0, true), Check.BEYOND);
        Check.due("15 no line", x.put(0, 2, false), Check.BEYOND);
        Check.due("15 no line below", x.put(0, -1, true), Check.BEYOND);
        Check.due("15 tires nobody", x.now(0), 0);
    }

    private static void years() {
        FortyReports x = new FortyReports();
        x.line(Check.CODED, 0, 2, 7, 1);
        x.line(Check.CODED, 0, 9, 9, 1);
        x.line(Check.SEEN, 0, 2, 7, 1);
        Check.due("16 a year", x.years(1), 1);
        Check.due("16 low", x.lineOf(0, 2), 3);
        Check.due("16 high", x.lineOf(0, 3), 8);
        Check.due("16 low no more than high", x.lineOf(1, 2), 9);
        Check.due("16 others stay", x.lineOf(2, 2), 2);
        Check.due("16 years", x.years(3), 4);
        Check.due("16 low goes on", x.lineOf(0, 2), 6);
        Check.due("16 high 9 at most", x.lineOf(0, 3), 9);
        Check.due("16 many", x.years(20), 24);
        Check.due("16 low at last", x.lineOf(0, 2), 9);
        Check.due("16 n 0", x.years(0), Check.BEYOND);
        Check.due("16 n 21", x.years(21), Check.BEYOND);
        for (int i = 0; i < 4; i++) {
            x.years(20);
        }
        Check.due("16 wear 99 at most", x.now(3), 99);
        Check.due("16 and no more", x.years(1), 99);
    }

    private static void now() {
        FortyReports x = new FortyReports();
        x.writer(0, 1);
        x.writer(1, 2);
        x.writer(2, 3);
        x.years(4);
        for (int what = 0; what < 4; what++) {
            Check.due("17 what " + what, x.now(what), what + 1);
        }
        Check.due("17 what below", x.now(-1), Check.BEYOND);
        Check.due("17 what above", x.now(4), Check.BEYOND);
    }
}
