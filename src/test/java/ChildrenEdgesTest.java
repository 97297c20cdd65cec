/** The edges that promises 1 to 4, and what section 1 tells of children, name. */
final class ChildrenEdgesTest {
    public static void main(String[] args) {
        aNewObjectHasNothing();
        aNewObjectKnowsNobody();
        aChildTakesTraitsFrom0To9();
        twelveChildrenAtMost();
        childAsksForBeyondAheadOfFull();
        aNewChildIsAsAtFirst();
        ofIsOfWhatThereIs();
        setTakesWhatMayBe();
        aBrotherIsAnotherOneOrNone();
        setLeavesAllElse();
        Check.end();
    }

    private static void aNewObjectHasNothing() {
        for (int what = 0; what < 5; what++) {
            int count = what;
            Twins.asks("1 count " + what, Scenes::none, x -> x.count(count), 0);
        }
        for (int which = -1; which < 7; which++) {
            int finding = which;
            Twins.asks("1 status " + which, Scenes::none, x -> x.status(finding), 0);
        }
        int[] first = {0, 20, 60, 0};
        for (int what = 0; what < 4; what++) {
            int now = what;
            Twins.asks("1 now " + what, Scenes::none, x -> x.now(now), first[what]);
        }
        Twins.asks("1 no twos", Scenes::none, x -> x.swaps(), 0);
        Twins.asks("1 nobody to tear from", Scenes::none, x -> x.tear(0), 0);
        Twins.asks("1 a plan of nobody", Scenes::none, x -> x.plan(0, 0), 0);
        Twins.asks("1 an order of nobody", Scenes::none, x -> x.order(0, -1), 0);
        Twins.asks("1 a heap of nobody", Scenes::none, x -> x.heap(0), 0);
        Twins.asks("1 an empty tape", Scenes::none, x -> x.wipe(), 0);
        Twins.asks("1 an empty text ends too early", Scenes::none, x -> x.text(), -1);
        Twins.asks("1 nothing to burn", Scenes::none, x -> x.burn(), 0);
        Twins.refused("1 no image", Scenes::none, x -> x.undo(), Check.NONE);
        Twins.refused("1 no plainest", Scenes::none, x -> x.plainest(), Check.NONE);
        Twins.refused("1 nobody to look at", Scenes::none, x -> x.whom(1), Check.NONE);
        for (int s = 0; s < 4; s++) {
            int sheet = s;
            Twins.refused("1 sheet " + s, Scenes::none, x -> x.write(sheet, 0, 1L), Check.MISSING);
        }
    }

    private static void aNewObjectKnowsNobody() {
        Twins.refused("1 of", Scenes::none, x -> x.of(0, 0), Check.BEYOND);
        Twins.refused("1 set", Scenes::none, x -> x.set(0, 0, 0), Check.BEYOND);
        Twins.refused("1 set brother", Scenes::none, x -> x.set(0, 6, -1), Check.BEYOND);
        Twins.refused("1 lineOf", Scenes::none, x -> x.lineOf(0, 0), Check.BEYOND);
        Twins.refused("1 as", Scenes::none, x -> x.as(0, 0), Check.BEYOND);
        Twins.refused("1 turn", Scenes::none, x -> x.turn(0, 0), Check.BEYOND);
        Twins.refused("1 all", Scenes::none, x -> x.all(0), Check.BEYOND);
        Twins.refused("1 report", Scenes::none, x -> x.report(0), Check.BEYOND);
        Twins.refused("1 tear", Scenes::none, x -> x.tear(1), Check.BEYOND);
        Twins.refused("1 whose", Scenes::none, x -> x.whose(0), Check.BEYOND);
        Twins.refused("1 bits", Scenes::none, x -> x.bits(0), Check.BEYOND);
        Twins.refused("1 alike", Scenes::none, x -> x.alike(0), Check.BEYOND);
        Twins.refused("1 wrong", Scenes::none, x -> x.wrong(0), Check.BEYOND);
        Twins.refused("1 plan", Scenes::none, x -> x.plan(0, 1), Check.KIND);
        Twins.refused("1 order", Scenes::none, x -> x.order(1, -1), Check.BEYOND);
        Twins.refused("1 heap", Scenes::none, x -> x.heap(1), Check.BEYOND);
        Twins.refused("1 look", Scenes::none, x -> x.look(0, 1), Check.BEYOND);
        Twins.refused("1 lean", Scenes::none, x -> x.lean(0), Check.BEYOND);
        Twins.refused("1 fits without lines", Scenes::twelveChildren, x -> x.fits(0, 0), Check.BEYOND);
        Twins.refused("1 fits without children", Scenes::twelveLines, x -> x.fits(0, 0), Check.BEYOND);
        Twins.refused("1 put without lines", Scenes::twelveChildren, x -> x.put(0, 0, true), Check.BEYOND);
        Twins.refused("1 put without children", Scenes::twelveLines, x -> x.put(0, 0, false), Check.BEYOND);
    }

    private static void aChildTakesTraitsFrom0To9() {
        Twins.range("2 work", Scenes::three, 0, 9, (x, v) -> x.child(v, 1, 2, 3));
        Twins.range("2 conduct", Scenes::three, 0, 9, (x, v) -> x.child(1, v, 2, 3));
        Twins.range("2 hand", Scenes::three, 0, 9, (x, v) -> x.child(1, 2, v, 3));
        Twins.range("2 voice", Scenes::three, 0, 9, (x, v) -> x.child(1, 2, 3, v));
        Twins.refused("2 all of them", Scenes::three, x -> x.child(-1, 10, -1, 10), Check.BEYOND);
        FortyReports x = new FortyReports();
        Check.due("2 the least", x.child(0, 0, 0, 0), 0);
        Check.due("2 the greatest", x.child(9, 9, 9, 9), 1);
        for (int trait = 0; trait < 4; trait++) {
            Check.due("2 0 stands", x.of(0, trait), 0);
            Check.due("2 9 stands", x.of(1, trait), 9);
        }
    }

    private static void twelveChildrenAtMost() {
        FortyReports x = new FortyReports();
        for (int i = 0; i < 12; i++) {
            Check.due("2 number", x.child(9, 0, 9, 0), i);
        }
        Check.due("2 twelve", x.count(0), 12);
        Twins.refused("2 a 13th", Scenes::twelveChildren, y -> y.child(0, 0, 0, 0), Check.FULL);
        Twins.refused("2 a 13th of a full one", Scenes::full, y -> y.child(9, 9, 9, 9), Check.FULL);
        Twins.taken("2 twelve lines are no bar", Scenes::twelveLines, y -> y.child(9, 9, 9, 9));
        Twins.refused("2 full again", y -> {
            Scenes.full(y);
            y.undo();
        }, y -> y.child(0, 0, 0, 0), Check.FULL);
    }

    private static void childAsksForBeyondAheadOfFull() {
        Twins.refused("2 work, and full", Scenes::full, x -> x.child(10, 0, 0, 0), Check.BEYOND);
        Twins.refused("2 conduct, and full", Scenes::full, x -> x.child(0, -1, 0, 0), Check.BEYOND);
        Twins.refused("2 hand, and full", Scenes::full, x -> x.child(0, 0, 10, 0), Check.BEYOND);
        Twins.refused("2 voice, and full", Scenes::full, x -> x.child(0, 0, 0, -1), Check.BEYOND);
    }

    private static void aNewChildIsAsAtFirst() {
        int[] first = {3, 4, 5, 6, 5, 0, -1, 0, 0};
        FortyReports x = Twins.built(Scenes::three);
        Check.due("2 the fourth", x.child(3, 4, 5, 6), 3);
        isAsAtFirst("2 new", x, first);
        x.set(3, 4, 9);
        x.set(3, 5, 1);
        x.set(3, 6, 2);
        x.put(3, 0, true);
        x.undo();
        x.child(0, 0, 0, 0);
        x.child(0, 0, 0, 0);
        Check.due("2 where one was", x.child(3, 4, 5, 6), 3);
        isAsAtFirst("2 where one was", x, first);
    }

    private static void isAsAtFirst(String what, FortyReports x, int[] first) {
        for (int i = 0; i < first.length; i++) {
            Check.due(what + ", " + i, x.of(3, i), first[i]);
        }
    }

    private static void ofIsOfWhatThereIs() {
        int[] third = {1, 8, 3, 7, 2, 0, 0, 16 + 32, 4 + 40};
        for (int what = 0; what < 9; what++) {
            int of = what;
            Twins.asks("3 of " + what, Scenes::three, x -> x.of(2, of), third[what]);
            Twins.beyond("3 child", Scenes::three, 0, 2, (x, v) -> x.of(v, of));
        }
        Twins.range("3 what", Scenes::three, 0, 8, (x, v) -> x.of(2, v));
        Twins.range("3 child", Scenes::three, 0, 2, (x, v) -> x.of(v, 8));
        Twins.range("3 child of twelve", Scenes::full, 0, 11, (x, v) -> x.of(v, 0));
        Twins.asks("3 no report", Scenes::three, x -> x.of(1, 7), 0);
        Twins.asks("3 no words", Scenes::three, x -> x.of(1, 8), 0);
        FortyReports x = Twins.built(Scenes::full);
        for (int line = 0; line < 12; line++) {
            x.put(0, line, true);
        }
        Check.due("3 all lines", x.of(0, 7), 4095);
        Check.due("3 the words of all lines", x.of(0, 8), 78);
    }

    private static void setTakesWhatMayBe() {
        for (int what = 0; what < 5; what++) {
            int at = what;
            Twins.range("4 set " + what, Scenes::three, 0, 9, (x, v) -> x.set(1, at, v));
        }
        Twins.range("4 sex", Scenes::three, 0, 1, (x, v) -> x.set(1, 5, v));
        Twins.range("4 what", Scenes::three, 0, 6, (x, v) -> x.set(1, v, 0));
        Twins.refused("4 a report is put, not set", Scenes::three, x -> x.set(1, 7, 0), Check.BEYOND);
        for (int what = 0; what < 7; what++) {
            int at = what;
            int v = what == 6 ? -1 : 1;
            Twins.range("4 child, what " + what, Scenes::three, 0, 2, (x, c) -> x.set(c, at, v));
        }
        Twins.range("4 child of twelve", Scenes::full, 0, 11, (x, c) -> x.set(c, 4, 9));
        int[] was = {6, 0, 9, 2, 5, 1, -1};
        FortyReports x = Twins.built(Scenes::three);
        for (int what = 0; what < 7; what++) {
            Check.due("4 was " + what, x.set(1, what, 0), was[what]);
            Check.due("4 is " + what, x.of(1, what), 0);
            Check.due("4 the same again " + what, x.set(1, what, 0), 0);
        }
        FortyReports y = Twins.built(Scenes::three);
        for (int what = 0; what < 5; what++) {
            y.set(1, what, 9);
            Check.due("4 9 stands " + what, y.of(1, what), 9);
        }
    }

    private static void aBrotherIsAnotherOneOrNone() {
        Twins.beyond("4 brother", Scenes::three, -1, 2, (x, v) -> x.set(1, 6, v));
        Twins.taken("4 none", Scenes::three, x -> x.set(2, 6, -1));
        Twins.taken("4 the first", Scenes::three, x -> x.set(1, 6, 0));
        Twins.taken("4 the last", Scenes::three, x -> x.set(1, 6, 2));
        Twins.taken("4 of twelve the last", Scenes::full, x -> x.set(0, 6, 11));
        Twins.refused("4 a 13th", Scenes::full, x -> x.set(0, 6, 12), Check.BEYOND);
        for (int child = 0; child < 3; child++) {
            int self = child;
            Twins.refused("4 itself", Scenes::three, x -> x.set(self, 6, self), Check.BEYOND);
        }
        FortyReports x = Twins.built(Scenes::three);
        Check.due("4 brothers of each other", x.set(0, 6, 2), -1);
        Check.due("4 the other one's stays", x.of(2, 6), 0);
        Check.due("4 none again", x.set(2, 6, -1), 0);
        Check.due("4 is none", x.of(2, 6), -1);
    }

    private static void setLeavesAllElse() {
        for (int what = 0; what < 7; what++) {
            int at = what;
            Twins.leaveTheSame("4 there and back, " + what, Scenes::three, x -> {
                int was = x.set(2, at, at == 6 ? 1 : 0);
                return x.set(2, at, was);
            }, x -> 0);
        }
    }
}
