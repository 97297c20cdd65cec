/** The edges that promises 38 to 42 name. */
final class ImagesEdgesTest {
    public static void main(String[] args) {
        imageOfNothing();
        imageKeepsSectionOneAlone();
        undoWithoutAnImage();
        undoTheLatestWhichStays();
        undoOfNobody();
        undoBringsAllBack();
        burnTwice();
        countOfNoneAndOfAll();
        statusRefuses();
        statusIsEver();
        Check.end();
    }

    private static void imageOfNothing() {
        FortyReports x = new FortyReports();
        Check.due("38 of nothing", x.image(), 1);
        Check.due("38 again", x.image(), 1);
        Check.due("39 nobody", x.undo(), 0);
        Check.due("40 something was kept", x.burn(), 1);
        Twins.leaveTheSame("38 twice is as once", Scenes::three, y -> y.image(), y -> y.image() + y.image());
        FortyReports full = Twins.built(Scenes::full);
        Check.due("38 of all", full.image(), 1);
        Check.due("39 twelve", full.undo(), 12);
    }

    private static void imageKeepsSectionOneAlone() {
        FortyReports x = Twins.built(Scenes::full);
        x.image();
        x.wipe();
        for (int s = 0; s < 4; s++) {
            x.sheet(s, 8, s);
        }
        int findings = x.status(-1);
        Check.due("39 twelve", x.undo(), 12);
        Check.due("38 the tape isn't kept", x.count(4), 0);
        for (int s = 0; s < 4; s++) {
            Check.due("38 sheets are not kept", x.copy(s, 0, s, 0, s), s);
            Check.due("38 of 8 bits now", x.copy(s, 0, 0, 0, 0), 0);
        }
        Check.due("38 no finding", x.status(-1), findings);
        Scenes.tape(x, "length 7");
        x.undo();
        Check.due("38 the tape isn't taken back", x.text(), 1);
        Check.due("38 it is told", x.now(2), 7);
        x.undo();
        Check.due("39 what was told is", x.now(2), 60);
    }

    private static void undoWithoutAnImage() {
        Twins.refused("39 new", Scenes::none, x -> x.undo(), Check.NONE);
        Twins.refused("39 burnt", x -> {
            Scenes.full(x);
            x.burn();
        }, x -> x.undo(), Check.NONE);
        Twins.refused("39 burnt behind an undo", x -> {
            Scenes.three(x);
            x.undo();
            x.burn();
        }, x -> x.undo(), Check.NONE);
        FortyReports x = new FortyReports();
        x.undo();
        Check.due("38 then kept", x.image(), 1);
        Check.due("39 then there", x.undo(), 0);
    }

    private static void undoTheLatestWhichStays() {
        FortyReports x = new FortyReports();
        for (int n = 0; n <= 12; n++) {
            x.image();
            x.child(1, 1, 1, 1);
        }
        Check.due("39 the latest", x.undo(), 12);
        x.tear(4095);
        Check.due("39 it stays", x.undo(), 12);
        Check.due("39 and stays", x.undo(), 12);
        FortyReports y = Twins.built(Scenes::three);
        Check.due("39 fewer", y.undo(), 1);
        Check.due("39 those are gone", y.of(1, 0), Check.BEYOND);
        Check.due("39 lines, too", y.lineOf(1, 0), Check.BEYOND);
        y.set(0, 0, 9);
        y.put(0, 0, true);
        y.turn(0, Check.CODED);
        y.years(5);
        y.report(0);
        Check.due("39 what comes then doesn't change it", y.undo(), 1);
        Check.due("39 trait", y.of(0, 0), 1);
        Check.due("39 report", y.of(0, 7), 0);
        Check.due("39 kind", y.lineOf(0, 0), Check.LINE);
        Check.due("39 low", y.lineOf(0, 2), 1);
        Check.due("39 wear", y.now(3), 1);
        Check.due("39 tired", y.now(0), 0);
    }

    private static void undoOfNobody() {
        FortyReports x = new FortyReports();
        x.image();
        Scenes.three(x);
        x.image();
        x.burn();
        Check.due("39 burnt", x.undo(), Check.NONE);
        FortyReports y = new FortyReports();
        y.image();
        Scenes.twelveChildren(y);
        Scenes.twelveLines(y);
        y.writer(0, 99);
        y.writer(1, 99);
        y.writer(2, 99);
        y.years(20);
        Check.due("39 back to nobody", y.undo(), 0);
        Twins.leaveTheSame("39 as new", Scenes::none, z -> {
            z.image();
            Scenes.twelveChildren(z);
            Scenes.twelveLines(z);
            z.writer(0, 99);
            z.writer(1, 99);
            z.writer(2, 99);
            z.years(20);
            return z.undo();
        }, z -> z.image());
    }

    private static void undoBringsAllBack() {
        Twins.leaveTheSame("39 three", Scenes::three, x -> {
            x.image();
            return spoil(x);
        }, x -> x.image());
        Twins.leaveTheSame("39 twelve", Scenes::full, x -> {
            x.image();
            return spoil(x);
        }, x -> x.image());
    }

    private static int spoil(FortyReports x) {
        for (int child = 0; child < x.count(0); child++) {
            for (int what = 0; what < 6; what++) {
                x.set(child, what, 1 - Math.min(1, x.of(child, what)));
            }
            x.set(child, 6, child == 0 ? 1 : 0);
            x.put(child, 0, true);
            x.put(child, 1, false);
        }
        for (int line = 0; line < x.count(1); line++) {
            x.turn(line, Check.CODED);
        }
        x.years(7);
        x.child(0, 0, 0, 0);
        x.line(0, 0, 0, 0, 1);
        x.writer(0, 71);
        x.writer(1, 72);
        x.writer(2, 73);
        return x.undo();
    }

    private static void burnTwice() {
        Twins.asks("40 nothing", Scenes::none, x -> x.burn(), 0);
        FortyReports x = Twins.built(Scenes::three);
        Check.due("40 something", x.burn(), 1);
        Check.due("40 nothing any more", x.burn(), 0);
        Check.due("40 what there is stays", x.count(0), 3);
        x.image();
        Check.due("40 kept again", x.burn(), 1);
        FortyReports y = Twins.built(Scenes::three);
        y.undo();
        Check.due("40 it stays behind an undo", y.burn(), 1);
    }

    private static void countOfNoneAndOfAll() {
        Twins.range("41 what", Scenes::three, 0, 4, (x, v) -> x.count(v));
        int[] three = {3, 7, 2, 13 + 44, 49};
        int[] full = {12, 12, 12, 78 + 12, 120};
        for (int what = 0; what < 5; what++) {
            int of = what;
            Twins.asks("41 none, " + what, Scenes::none, x -> x.count(of), 0);
            Twins.asks("41 three, " + what, Scenes::three, x -> x.count(of), three[of]);
            Twins.asks("41 twelve, " + what, Scenes::full, x -> x.count(of), full[of]);
        }
        FortyReports x = Twins.built(Scenes::full);
        for (int child = 0; child < 12; child++) {
            for (int line = 0; line < 12; line++) {
                x.put(child, line, true);
            }
        }
        Check.due("41 all words", x.count(3), 12 * 78);
        x.tear(4095);
        Check.due("41 no words", x.count(3), 0);
        Check.due("41 no reports", x.count(2), 0);
    }

    private static void statusRefuses() {
        Twins.range("42 which", Scenes::three, -1, 6, (x, v) -> x.status(v));
        FortyReports x = new FortyReports();
        Check.due("42 nothing yet", x.status(-1), 0);
        Check.due("42 another one", x.status(7), Check.BEYOND);
        Check.due("42 counted from then on", x.status(-1), 1);
        Check.due("42 as beyond", x.status(0), 1);
        Check.due("42 another one below", x.status(-2), Check.BEYOND);
        Check.due("42 counted, too", x.status(0), 2);
    }

    private static void statusIsEver() {
        FortyReports x = new FortyReports();
        Scenes.full(x);
        // one of each finding that there is, two of the second, and so on
        for (int i = 0; i < 6; i++) {
            x.plan(0, 2);
        }
        for (int i = 0; i < 5; i++) {
            x.child(0, 0, 0, 0);
        }
        for (int i = 0; i < 4; i++) {
            x.order(3, 2);
        }
        for (int i = 0; i < 3; i++) {
            x.sheet(0, 0, -1);
        }
        x.sheet(0, 0, 0);
        for (int i = 0; i < 2; i++) {
            x.write(0, 0, 0L);
        }
        x.now(4);
        int[] due = {1, 5, 6, 4, 0, 2, 3};
        x.undo();
        for (int which = 0; which < 7; which++) {
            Check.due("42 undo() takes none back, " + which, x.status(which), due[which]);
        }
        Check.due("42 all", x.status(-1), 21);
        x.image();
        x.burn();
        x.undo();
        Check.due("42 one more", x.status(-1), 22);
        x.wipe();
        Check.due("42 a fault is no finding", x.text(), -1);
        Check.due("42 none by a fault", x.status(-1), 22);
    }
}
