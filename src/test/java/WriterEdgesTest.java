/** The edges that promises 11 to 17, and what section 1 tells of the writer, name. */
final class WriterEdgesTest {
    public static void main(String[] args) {
        writerTakesWhatMayBe();
        reportRefuses();
        reportOfNothing();
        sixLinesAtMost();
        wordsUpToLength();
        oneOfTooManyWordsIsLeftAside();
        patienceEnds();
        tiredUpTo99();
        theMostWorthAndOfSeveralTheLeast();
        copiedByReportsAsTheyAre();
        restDownTo0();
        tearOfASet();
        putInAndOut();
        yearsTakes1To20();
        lowAndHighUpTo9();
        wearUpTo99();
        nowRefuses();
        Check.end();
    }

    private static void writerTakesWhatMayBe() {
        Twins.range("11 tired", Scenes::three, 0, 99, (x, v) -> x.writer(0, v));
        Twins.range("11 patience", Scenes::three, 1, 99, (x, v) -> x.writer(1, v));
        Twins.range("11 length", Scenes::three, 1, 99, (x, v) -> x.writer(2, v));
        Twins.range("11 what", Scenes::three, 0, 2, (x, v) -> x.writer(v, 1));
        Twins.refused("11 wear passes by years alone", Scenes::three, x -> x.writer(3, 0), Check.BEYOND);
        int[] was = {9, 30, 70};
        int[] first = {0, 20, 60};
        for (int what = 0; what < 3; what++) {
            FortyReports x = Twins.built(Scenes::three);
            Check.due("11 was", x.writer(what, 99), was[what]);
            Check.due("11 is", x.now(what), 99);
            Check.due("11 the least", x.writer(what, what == 0 ? 0 : 1), 99);
            Check.due("11 is the least", x.now(what), what == 0 ? 0 : 1);
            Check.due("11 at first", new FortyReports().writer(what, 99), first[what]);
        }
    }

    private static void reportRefuses() {
        Twins.range("12 child", Scenes::three, 0, 2, (x, v) -> x.report(v));
        Twins.range("12 child of twelve", Scenes::full, 0, 11, (x, v) -> x.report(v));
    }

    private static void reportOfNothing() {
        FortyReports x = Twins.built(Scenes::twelveChildren);
        Check.due("12 without lines", x.report(11), 0);
        Check.due("12 it is none", x.of(11, 7), 0);
        Check.due("12 tired by 1", x.now(0), 1);
        x.line(Check.LINE, 0, 1, 1, 1);
        x.line(Check.LINE, 0, 9, 9, 1);
        x.put(11, 1, true);
        Check.due("12 one that fits", x.report(11), 1);
        Check.due("12 in place of one that doesn't", x.of(11, 7), 1);
        x.set(11, 0, 5);
        Check.due("12 none fits", x.report(11), 0);
        Check.due("12 none in place of one", x.of(11, 7), 0);
        Check.due("12 tired by 1 and 2 and 1", x.now(0), 4);
    }

    /** One child, and so many lines of a word that fit it. */
    private static FortyReports oneChild(int lines, int words) {
        FortyReports x = Check.withChildren(1);
        for (int line = 0; line < lines; line++) {
            x.line(Check.LINE, 0, 0, 0, words);
        }
        return x;
    }

    private static void sixLinesAtMost() {
        int[] set = {0, 1, 3, 7, 15, 31, 63, 63, 63, 63, 63, 63, 63};
        for (int lines = 0; lines <= 12; lines++) {
            FortyReports x = oneChild(lines, 1);
            Check.due("12 of " + lines, x.report(0), Math.min(6, lines));
            Check.due("12 the set of " + lines, x.of(0, 7), set[lines]);
            Check.due("12 tired of " + lines, x.now(0), Math.min(6, lines) + 1);
        }
        FortyReports x = oneChild(12, 40);
        x.writer(2, 39);
        Check.due("12 all too long", x.report(0), 0);
        FortyReports y = oneChild(6, 40);
        for (int line = 6; line < 12; line++) {
            y.line(Check.LINE, 0, 0, 0, 1);
        }
        y.writer(2, 6);
        Check.due("12 those left aside are not among the six", y.report(0), 6);
        Check.due("12 the six behind them", y.of(0, 7), 63 << 6);
    }

    private static void wordsUpToLength() {
        FortyReports x = oneChild(2, 30);
        Check.due("12 60 words of 60", x.report(0), 2);
        x.writer(2, 59);
        Check.due("12 60 words of 59", x.report(0), 1);
        x.writer(2, 30);
        Check.due("12 30 words of 30", x.report(0), 1);
        x.writer(2, 29);
        Check.due("12 30 words of 29", x.report(0), 0);
        FortyReports one = oneChild(2, 1);
        one.writer(2, 1);
        Check.due("12 one word", one.report(0), 1);
        Check.due("12 the first", one.of(0, 7), 1);
        FortyReports long99 = oneChild(3, 33);
        long99.writer(2, 99);
        Check.due("12 99 words", long99.report(0), 3);
        FortyReports long40 = oneChild(3, 40);
        long40.writer(2, 99);
        Check.due("12 120 words", long40.report(0), 2);
    }

    private static void oneOfTooManyWordsIsLeftAside() {
        FortyReports x = oneChild(1, 20);
        x.line(Check.LINE, 0, 0, 0, 40);
        x.line(Check.LINE, 0, 0, 0, 39);
        x.line(Check.LINE, 0, 0, 0, 20);
        x.line(Check.LINE, 0, 0, 0, 1);
        x.writer(2, 59);
        Check.due("12 those that come yet", x.report(0), 2);
        Check.due("12 40 is left aside, 39 is used", x.of(0, 7), 1 + 4);
        x.writer(2, 58);
        Check.due("12 both are left aside", x.report(0), 3);
        Check.due("12 what is short enough", x.of(0, 7), 1 + 8 + 16);
    }

    private static void patienceEnds() {
        // as tired as patient: heaped ones alone, and those under that
        tired("12 tired 0 of 1", 0, 1, 1 + 2 + 4 + 8 + 32);
        tired("12 tired 1 of 1", 1, 1, 4 + 8);
        tired("12 tired 19 of 20", 19, 20, 1 + 2 + 4 + 8 + 32);
        tired("12 tired 20 of 20", 20, 20, 4 + 8);
        tired("12 tired 21 of 20", 21, 20, 4 + 8);
        tired("12 tired 98 of 99", 98, 99, 1 + 2 + 4 + 8 + 32);
        tired("12 tired 99 of 99", 99, 99, 4 + 8);
        FortyReports x = oneChild(6, 1);
        x.line(Check.HEAPED, 0, 0, 0, 1);
        x.writer(0, 0);
        x.writer(1, 7);
        Check.due("12 patient while a report is written", x.report(0), 6);
        Check.due("12 not for the next one", x.report(0), 1);
    }

    private static void tired(String what, int tired, int patience, int set) {
        FortyReports x = Check.withChildren(1);
        for (int kind = 0; kind < 7; kind++) {
            x.line(kind, 0, 0, 9, 1);
        }
        x.writer(0, tired);
        x.writer(1, patience);
        x.report(0);
        Check.due(what, x.of(0, 7), set);
        x.writer(0, tired);
        x.set(0, 4, 2);
        x.report(0);
        Check.due(what + ", hardly seen", x.of(0, 7), tired < patience ? 1 + 4 + 8 + 64 : 4 + 8);
    }

    private static void tiredUpTo99() {
        int[] before = {91, 92, 93, 98, 99};
        int[] after = {98, 99, 99, 99, 99};
        for (int i = 0; i < before.length; i++) {
            FortyReports x = Check.withChildren(1);
            for (int line = 0; line < 6; line++) {
                x.line(Check.HEAPED, 0, 0, 0, 1);
            }
            x.writer(0, before[i]);
            Check.due("12 six", x.report(0), 6);
            Check.due("12 tired after " + before[i], x.now(0), after[i]);
            x.tear(1);
            x.writer(0, before[i]);
            x.writer(2, 1);
            Check.due("12 one", x.report(0), 1);
            Check.due("12 tired by 2 after " + before[i], x.now(0), Math.min(99, before[i] + 2));
        }
    }

    private static void theMostWorthAndOfSeveralTheLeast() {
        // one line at a time may be used: which is it?
        FortyReports x = Check.withChildren(2);
        x.set(1, 0, 9);
        x.writer(2, 1);
        x.line(Check.HEAPED, 0, 0, 0, 1);
        first("12 worth 0", x, 1);
        x.line(Check.LINE, 0, 0, 9, 1);
        first("12 worth 1 ahead of 0", x, 2);
        x.line(Check.LINE, 0, 0, 9, 1);
        first("12 of several the least", x, 2);
        x.line(Check.CODED, 0, 0, 9, 1);
        first("12 coded: 3", x, 8);
        x.line(Check.SEEN, 0, 0, 9, 1);
        first("12 seen: 6", x, 16);
        x.line(Check.LINE, 0, 0, 8, 1);
        first("12 says 1: 11", x, 32);
        x.line(Check.CODED, 0, 1, 9, 1);
        first("12 coded, says 1: 13", x, 64);
        x.line(Check.SEEN, 0, 0, 8, 1);
        first("12 seen, says 1: 16", x, 128);
        FortyReports y = Check.withChildren(1);
        y.set(0, 4, 0);
        y.writer(2, 1);
        y.line(Check.HEAPED, 0, 0, 0, 1);
        y.years(1);
        first("12 below 0 is used, too", y, 1);
        y.line(Check.LEFT, 0, 0, 0, 1);
        first("12 left: 0 ahead of -1", y, 2);
        y.line(Check.LEANED, 0, 0, 0, 1);
        first("12 leaned: 0 as well, behind the least", y, 2);
        y.turn(1, Check.LEANED);
        first("12 two of a kind", y, 2);
    }

    private static void first(String what, FortyReports x, int set) {
        x.writer(0, 0);
        Check.due(what, x.report(0), 1);
        Check.due(what + ": the set", x.of(0, 7), set);
    }

    private static void copiedByReportsAsTheyAre() {
        FortyReports x = Check.withChildren(3);
        x.line(Check.COPIED, 0, 0, 0, 1);
        x.set(0, 6, 1);
        x.set(1, 6, 2);
        x.put(2, 0, true);
        Check.due("12 the brother has none yet", x.report(0), 0);
        Check.due("12 his brother has", x.report(1), 1);
        Check.due("12 now the brother has", x.report(0), 1);
        x.tear(4);
        Check.due("12 the brother's brother doesn't matter", x.report(0), 1);
        Check.due("12 nor does the own one", x.report(1), 0);
        Check.due("12 until it does", x.report(0), 0);
        ownIsNoneMeanwhile();
    }

    private static void ownIsNoneMeanwhile() {
        // as it stands line 0 says 1 and line 1 says 1, too; while 0 is written line 0 says 2, as 1 can't copy then
        FortyReports x = Check.withChildren(3);
        x.line(Check.SEEN, 0, 0, 0, 1);
        x.line(Check.COPIED, 0, 0, 0, 1);
        x.set(2, 0, 9);
        x.set(0, 6, 2);
        x.set(1, 6, 0);
        x.put(2, 1, true);
        x.put(0, 1, true);
        x.writer(2, 1);
        Check.due("12 as it stands", x.lineOf(1, 5), 1);
        Check.due("12 it is worth 20", x.lineOf(1, 6), 20);
        Check.due("12 the other 16", x.lineOf(0, 6), 16);
        x.years(5);
        Check.due("12 then 10", x.lineOf(1, 6), 10);
        Check.due("12 one of both", x.report(0), 1);
        Check.due("12 while it is written: 30", x.of(0, 7), 2);
    }

    private static void restDownTo0() {
        Twins.range("13 n", Scenes::three, 1, 99, (x, v) -> x.rest(v));
        int[] tired = {0, 1, 2, 3, 99};
        for (int was : tired) {
            FortyReports x = new FortyReports();
            x.writer(0, was);
            Check.due("13 rest of 2 from " + was, x.rest(2), Math.max(0, was - 2));
            Check.due("13 now", x.now(0), Math.max(0, was - 2));
            x.writer(0, was);
            Check.due("13 rest of 99 from " + was, x.rest(99), 0);
        }
    }

    private static void tearOfASet() {
        Twins.range("14 set", Scenes::three, 0, 7, (x, v) -> x.tear(v));
        Twins.range("14 set of twelve", Scenes::full, 0, 4095, (x, v) -> x.tear(v));
        Twins.refused("14 one of them isn't there", Scenes::three, x -> x.tear(15), Check.BEYOND);
        Twins.asks("14 an empty set", Scenes::three, x -> x.tear(0), 0);
        Twins.asks("14 one that has none", Scenes::three, x -> x.tear(2), 0);
        FortyReports x = Twins.built(Scenes::full);
        Check.due("14 the last", x.tear(2048), 1);
        Check.due("14 again", x.tear(2048), 0);
        Check.due("14 all of them", x.tear(4095), 11);
        Check.due("14 none has any", x.count(2), 0);
    }

    private static void putInAndOut() {
        Twins.range("15 child", Scenes::three, 0, 2, (x, v) -> x.put(v, 6, true));
        Twins.range("15 line", Scenes::three, 0, 6, (x, v) -> x.put(2, v, true));
        Twins.range("15 child, out", Scenes::three, 0, 2, (x, v) -> x.put(v, 6, false));
        Twins.range("15 line, out", Scenes::three, 0, 6, (x, v) -> x.put(2, v, false));
        Twins.range("15 child of twelve", Scenes::full, 0, 11, (x, v) -> x.put(v, 11, true));
        Twins.range("15 line of twelve", Scenes::full, 0, 11, (x, v) -> x.put(11, v, true));
        Twins.refused("15 a shift further", Scenes::full, x -> x.put(0, 32, false), Check.BEYOND);
        Twins.asks("15 in already", Scenes::three, x -> x.put(2, 5, true), 0);
        Twins.asks("15 out already", Scenes::three, x -> x.put(2, 6, false), 0);
        FortyReports x = Twins.built(Scenes::full);
        for (int line = 0; line < 12; line++) {
            Check.due("15 fits or not", x.put(5, line, true), line == 5 ? 0 : 1);
        }
        Check.due("15 twelve may be put", x.of(5, 7), 4095);
        for (int line = 11; line >= 0; line--) {
            Check.due("15 and taken out", x.put(5, line, false), 1);
            Check.due("15 what is left", x.of(5, 7), (1 << line) - 1);
        }
    }

    private static void yearsTakes1To20() {
        Twins.range("16 n", Scenes::three, 1, 20, (x, v) -> x.years(v));
        Twins.range("16 n of twelve", Scenes::full, 1, 20, (x, v) -> x.years(v));
        Twins.leaveTheSame("16 one by one", Scenes::full, x -> x.years(3), x -> x.years(1) + x.years(1) + x.years(1));
        Check.due("16 wear at first", new FortyReports().years(1), 1);
        Check.due("16 20 of them", new FortyReports().years(20), 20);
    }

    private static void lowAndHighUpTo9() {
        for (int low = 0; low < 10; low++) {
            for (int high = low; high < 10; high++) {
                FortyReports x = new FortyReports();
                for (int kind = 0; kind < 7; kind++) {
                    x.line(kind, 0, low, high, 1);
                }
                for (int year = 1; year <= 11; year++) {
                    x.years(1);
                    Check.due("16 coded low", x.lineOf(Check.CODED, 2), Math.min(9, low + year));
                    Check.due("16 coded high", x.lineOf(Check.CODED, 3), Math.min(9, high + year));
                }
                for (int kind = 0; kind < 7; kind++) {
                    Check.due("16 low stays", x.lineOf(kind, 2), kind == Check.CODED ? 9 : low);
                    Check.due("16 high stays", x.lineOf(kind, 3), kind == Check.CODED ? 9 : high);
                }
            }
        }
        FortyReports x = new FortyReports();
        x.line(Check.CODED, 0, 1, 2, 1);
        x.turn(0, Check.SEEN);
        x.years(1);
        x.turn(0, Check.CODED);
        x.years(2);
        Check.due("16 only while it is coded", x.lineOf(0, 2), 3);
    }

    private static void wearUpTo99() {
        FortyReports x = new FortyReports();
        x.line(Check.HEAPED, 0, 0, 0, 1);
        for (int i = 1; i <= 4; i++) {
            x.years(20);
        }
        Check.due("16 wear 98", x.years(18), 98);
        Check.due("16 wear 99", x.years(1), 99);
        Check.due("16 and no more", x.years(1), 99);
        Check.due("16 nor by many", x.years(20), 99);
        Check.due("16 now", x.now(3), 99);
        Check.due("16 off the worth", x.lineOf(0, 6), -99);
        FortyReports y = new FortyReports();
        for (int i = 1; i <= 4; i++) {
            y.years(20);
        }
        Check.due("16 past 99 at once", y.years(20), 99);
    }

    private static void nowRefuses() {
        Twins.range("17 what", Scenes::three, 0, 3, (x, v) -> x.now(v));
        int[] due = {9, 30, 70, 3};
        for (int what = 0; what < 4; what++) {
            int of = what;
            Twins.asks("17 now " + what, Scenes::three, x -> x.now(of), due[what]);
        }
    }
}
