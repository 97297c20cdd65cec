/** The edges that promises 5 to 10, and what section 1 tells of lines, name. */
final class LinesEdgesTest {
    private static final int[] ABOVE = {-1, 0, 0, 2, 2, 1, 0};

    public static void main(String[] args) {
        lineTakesWhatMayBe();
        lowIsNoMoreThanHigh();
        twelveLinesAtMost();
        lineAsksForBeyondAheadOfFull();
        lineOfIsOfWhatThereIs();
        aLineSaysFrom0To12();
        worthEnds();
        asIsOfItsKindAndThoseAbove();
        turnTakesAnyKind();
        fitsFromLowToHigh();
        fitsBySeen();
        fitsByTheRestOfLow();
        fitsByTheBrother();
        fitsRefuses();
        allIsASet();
        Check.end();
    }

    private static void lineTakesWhatMayBe() {
        Twins.range("5 kind", Scenes::three, 0, 6, (x, v) -> x.line(v, 0, 3, 5, 8));
        Twins.range("5 trait", Scenes::three, 0, 3, (x, v) -> x.line(0, v, 3, 5, 8));
        Twins.range("5 low", Scenes::three, 0, 9, (x, v) -> x.line(0, 0, v, 9, 8));
        Twins.range("5 high", Scenes::three, 0, 9, (x, v) -> x.line(0, 0, 0, v, 8));
        Twins.range("5 words", Scenes::three, 1, 40, (x, v) -> x.line(0, 0, 3, 5, v));
        Twins.refused("5 low and high below 0", Scenes::three, x -> x.line(0, 0, -1, -1, 8), Check.BEYOND);
        Twins.refused("5 low and high above 9", Scenes::three, x -> x.line(0, 0, 10, 10, 8), Check.BEYOND);
        int[] given = {6, 3, 9, 9, 40};
        FortyReports x = Twins.built(Scenes::three);
        Check.due("5 number", x.line(6, 3, 9, 9, 40), 7);
        for (int what = 0; what < 5; what++) {
            Check.due("5 what " + what, x.lineOf(7, what), given[what]);
        }
    }

    private static void lowIsNoMoreThanHigh() {
        for (int kind = 0; kind < 7; kind++) {
            int of = kind;
            for (int low = 0; low < 10; low++) {
                int at = low;
                Twins.taken("5 low as high", Scenes::three, x -> x.line(of, 0, at, at, 8));
                if (low > 0) {
                    Twins.refused("5 low 1 more than high", Scenes::three, x -> x.line(of, 0, at, at - 1, 8), Check.BEYOND);
                }
            }
        }
        Twins.refused("5 low far above high", Scenes::three, x -> x.line(0, 0, 9, 0, 8), Check.BEYOND);
    }

    private static void twelveLinesAtMost() {
        FortyReports x = new FortyReports();
        for (int i = 0; i < 12; i++) {
            Check.due("5 number", x.line(6, 0, 0, 0, 1), i);
        }
        Check.due("5 twelve", x.count(1), 12);
        Twins.refused("5 a 13th", Scenes::twelveLines, y -> y.line(0, 0, 0, 0, 1), Check.FULL);
        Twins.refused("5 a 13th of a full one", Scenes::full, y -> y.line(6, 3, 9, 9, 40), Check.FULL);
        Twins.taken("5 twelve children are no bar", Scenes::twelveChildren, y -> y.line(6, 3, 9, 9, 40));
    }

    private static void lineAsksForBeyondAheadOfFull() {
        Twins.refused("5 kind, and full", Scenes::full, x -> x.line(7, 0, 0, 0, 1), Check.BEYOND);
        Twins.refused("5 trait, and full", Scenes::full, x -> x.line(0, 4, 0, 0, 1), Check.BEYOND);
        Twins.refused("5 low, and full", Scenes::full, x -> x.line(0, 0, -1, 0, 1), Check.BEYOND);
        Twins.refused("5 high, and full", Scenes::full, x -> x.line(0, 0, 0, 10, 1), Check.BEYOND);
        Twins.refused("5 low above high, and full", Scenes::full, x -> x.line(0, 0, 1, 0, 1), Check.BEYOND);
        Twins.refused("5 words, and full", Scenes::full, x -> x.line(0, 0, 0, 0, 41), Check.BEYOND);
    }

    private static void lineOfIsOfWhatThereIs() {
        for (int what = 0; what < 7; what++) {
            int of = what;
            Twins.range("6 line, what " + what, Scenes::three, 0, 6, (x, v) -> x.lineOf(v, of));
        }
        Twins.range("6 what", Scenes::three, 0, 6, (x, v) -> x.lineOf(3, v));
        Twins.range("6 line of twelve", Scenes::full, 0, 11, (x, v) -> x.lineOf(v, 6));
        Twins.asks("6 worth", Scenes::three, x -> x.lineOf(2, 6), 1 - 12 - 3);
    }

    private static void aLineSaysFrom0To12() {
        FortyReports none = Twins.built(Scenes::twelveLines);
        Check.due("6 of no children", none.lineOf(0, 5), 0);
        FortyReports x = Twins.built(Scenes::twelveChildren);
        x.line(Check.LEFT, 0, 0, 0, 1);
        x.line(Check.HEAPED, 0, 0, 0, 1);
        x.line(Check.SEEN, 0, 9, 9, 1);
        Check.due("6 of twelve it fits none", x.lineOf(0, 5), 12);
        Check.due("6 heaped ones say nothing", x.lineOf(1, 5), 0);
        Check.due("6 it fits one", x.lineOf(2, 5), 11);
        x.set(11, 4, 0);
        Check.due("6 one is left", x.lineOf(0, 5), 11);
    }

    private static void worthEnds() {
        // what the kinds are worth: of no children in no year; of twelve; and least of all after 99 years
        worth("6 of none", Scenes::none, 40, 0, 1, 6, -39, -38, -78, 3, 0);
        worth("6 of twelve", x -> {
            for (int i = 0; i < 12; i++) {
                x.child(5, 0, 0, 0);
                x.set(i, 5, 1);
            }
        }, 1, 0, 121, 126, 0, 121, 240, 123, 0);
        worth("6 of none after 99 years", Scenes::none, 40, 99, 1, 6, -138, -137, -276, 3, 0);
        FortyReports x = new FortyReports();
        x.line(Check.HEAPED, 0, 0, 0, 1);
        Check.due("6 worth 0", x.lineOf(0, 6), 0);
        x.turn(0, Check.COPIED);
        Check.due("6 twice 0", x.lineOf(0, 6), 0);
        x.years(1);
        Check.due("6 below 0", x.lineOf(0, 6), -2);
    }

    private static void worth(String what, Twins.Scene scene, int words, int years, int... due) {
        FortyReports x = Twins.built(scene);
        for (int kind = 0; kind < 7; kind++) {
            // no child of work 5 and of sex 1 is fitted by a line that isn't heaped
            x.line(kind, 0, 0, 0, words);
        }
        for (int year = 0; year < years; year++) {
            x.years(1);
        }
        for (int kind = 0; kind < 7; kind++) {
            Check.due(what + ", kind " + kind, x.lineOf(kind, 6), due[kind]);
            Check.due(what + ", as its own kind " + kind, x.as(kind, kind), due[kind]);
            Check.due(what + ", as a line " + kind, x.as(kind, 0), due[kind]);
        }
    }

    private static void asIsOfItsKindAndThoseAbove() {
        for (int line = 0; line < 7; line++) {
            int of = line;
            for (int kind = 0; kind < 7; kind++) {
                int as = kind;
                if (isUnder(line, kind)) {
                    int worth = Twins.built(Scenes::three).lineOf(line, 6);
                    Twins.asks("7 " + line + " as " + kind, Scenes::three, x -> x.as(of, as), worth);
                } else {
                    Twins.refused("7 " + line + " as " + kind, Scenes::three, x -> x.as(of, as), Check.KIND);
                }
            }
        }
        Twins.range("7 line", Scenes::three, 0, 6, (x, v) -> x.as(v, 0));
        Twins.range("7 line of twelve", Scenes::full, 0, 11, (x, v) -> x.as(v, 0));
        Twins.beyond("7 kind", Scenes::three, 0, 6, (x, v) -> x.as(6, v));
        Twins.taken("7 kind 6", Scenes::three, x -> x.as(6, 6));
        Twins.refused("7 no line, and no kind of it", Scenes::three, x -> x.as(7, 3), Check.BEYOND);
        Twins.refused("7 kind of one that was turned", x -> {
            Scenes.three(x);
            x.turn(3, Check.LINE);
        }, x -> x.as(3, Check.HEAPED), Check.KIND);
    }

    private static boolean isUnder(int kind, int upper) {
        return kind >= 0 && (kind == upper || isUnder(ABOVE[kind], upper));
    }

    private static void turnTakesAnyKind() {
        Twins.range("8 line", Scenes::three, 0, 6, (x, v) -> x.turn(v, 5));
        Twins.range("8 kind", Scenes::three, 0, 6, (x, v) -> x.turn(3, v));
        Twins.range("8 line of twelve", Scenes::full, 0, 11, (x, v) -> x.turn(v, 6));
        Twins.asks("8 to what it is", Scenes::three, x -> x.turn(3, 3), 3);
        for (int kind = 0; kind < 7; kind++) {
            int to = kind;
            FortyReports x = Twins.built(Scenes::three);
            Check.due("8 was", x.turn(4, kind), 4);
            Check.due("8 is", x.lineOf(4, 0), kind);
            Twins.leaveTheSame("8 there and back, " + kind, Scenes::three, y -> {
                y.turn(4, to);
                return y.turn(4, 4);
            }, y -> 0);
        }
    }

    private static void fitsFromLowToHigh() {
        for (int low = 0; low < 10; low++) {
            for (int high = low; high < 10; high++) {
                FortyReports x = new FortyReports();
                x.line(Check.LINE, 1, low, high, 1);
                x.line(Check.SEEN, 1, low, high, 1);
                x.line(Check.CODED, 1, low, high, 1);
                x.child(0, 0, 0, 0);
                for (int v = 0; v < 10; v++) {
                    x.set(0, 1, v);
                    int due = v < low || v > high ? 0 : 1;
                    int coded = 9 - v < low || 9 - v > high ? 0 : 1;
                    Check.due("9 line of " + low + " to " + high + " by " + v, x.fits(0, 0), due);
                    Check.due("9 seen of " + low + " to " + high + " by " + v, x.fits(1, 0), due);
                    Check.due("9 coded of " + low + " to " + high + " by " + v, x.fits(2, 0), coded);
                }
            }
        }
    }

    private static void fitsBySeen() {
        FortyReports x = new FortyReports();
        x.child(4, 4, 4, 4);
        for (int kind = 0; kind < 7; kind++) {
            x.line(kind, 0, 0, 9, 1);
        }
        for (int seen = 0; seen < 10; seen++) {
            x.set(0, 4, seen);
            int enough = seen < 3 ? 0 : 1;
            int[] due = {1, enough, 1, 1, 0, enough, 1 - enough};
            for (int kind = 0; kind < 7; kind++) {
                Check.due("9 kind " + kind + " seen " + seen, x.fits(kind, 0), due[kind]);
            }
        }
    }

    private static void fitsByTheRestOfLow() {
        FortyReports x = Check.withChildren(1);
        for (int low = 0; low < 10; low++) {
            x.line(Check.LEANED, 0, low, 9, 1);
        }
        for (int sex = 0; sex < 2; sex++) {
            x.set(0, 5, sex);
            for (int low = 0; low < 10; low++) {
                Check.due("9 sex " + sex + ", low " + low, x.fits(low, 0), (low + sex + 1) % 2);
            }
        }
    }

    private static void fitsByTheBrother() {
        FortyReports x = Twins.built(Scenes::full);
        x.turn(0, Check.COPIED);
        x.turn(11, Check.COPIED);
        Check.due("9 without a brother", x.fits(11, 10), 0);
        x.set(10, 6, 11);
        Check.due("9 the last line of the last child", x.fits(11, 10), 1);
        Check.due("9 another line", x.fits(0, 10), 0);
        x.set(10, 6, 0);
        Check.due("9 the first line of the first child", x.fits(0, 10), 1);
        x.tear(1);
        Check.due("9 none is there any more", x.fits(0, 10), 0);
        x.put(10, 0, true);
        Check.due("9 not by the own report", x.fits(0, 10), 0);
    }

    private static void fitsRefuses() {
        Twins.range("9 line", Scenes::three, 0, 6, (x, v) -> x.fits(v, 0));
        Twins.range("9 child", Scenes::three, 0, 2, (x, v) -> x.fits(0, v));
        Twins.range("9 line of twelve", Scenes::full, 0, 11, (x, v) -> x.fits(v, 11));
        Twins.range("9 child of twelve", Scenes::full, 0, 11, (x, v) -> x.fits(11, v));
        Twins.refused("9 a line as many as children", Scenes::three, x -> x.fits(7, 2), Check.BEYOND);
        Twins.refused("9 a child as many as lines", Scenes::three, x -> x.fits(6, 6), Check.BEYOND);
        Twins.asks("9 asks only", Scenes::three, x -> x.fits(2, 2), 1);
    }

    private static void allIsASet() {
        Twins.range("10 child", Scenes::three, 0, 2, (x, v) -> x.all(v));
        Twins.range("10 child of twelve", Scenes::full, 0, 11, (x, v) -> x.all(v));
        Twins.asks("10 without lines", Scenes::twelveChildren, x -> x.all(11), 0);
        Twins.asks("10 asks only", Scenes::three, x -> x.all(2), 1 + 4 + 16 + 64);
        FortyReports x = Check.withChildren(1);
        for (int line = 0; line < 12; line++) {
            x.line(Check.HEAPED, 0, 0, 0, 1);
        }
        Check.due("10 all twelve", x.all(0), 4095);
        x.turn(11, Check.LEFT);
        Check.due("10 all but the last", x.all(0), 2047);
    }
}
