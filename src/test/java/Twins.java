import java.util.List;

/** Objects built alike, of which one takes a call more: where they differ afterwards, the call has changed something. */
final class Twins {
    /** What is called on a new object first. */
    interface Scene {
        void build(FortyReports x);
    }

    interface Act {
        long on(FortyReports x);
    }

    /** A call with one argument left open. */
    interface Trial {
        long on(FortyReports x, int v);
    }

    private static final int NO_FINDING = 0;

    private Twins() {
    }

    static FortyReports built(Scene scene) {
        FortyReports x = new FortyReports();
        scene.build(x);
        return x;
    }

    /** The call answers the finding, which is counted once; and changes nothing else. */
    static void refused(String what, Scene scene, Act call, int finding) {
        answers(what, scene, call, finding, finding);
    }

    /** The call answers so, and changes nothing at all. */
    static void asks(String what, Scene scene, Act call, long answer) {
        answers(what, scene, call, answer, NO_FINDING);
    }

    /** What lies beyond low and high on either side, near and far, is refused as BEYOND; both of them are taken. */
    static void range(String what, Scene scene, int low, int high, Trial call) {
        taken(what + " of " + low, scene, x -> call.on(x, low));
        taken(what + " of " + high, scene, x -> call.on(x, high));
        beyond(what, scene, low, high, call);
    }

    /** As range, where nothing is said of low and high themselves. */
    static void beyond(String what, Scene scene, int low, int high, Trial call) {
        int[] others = {low - 1, high + 1, low - 256, high + 256, low + 65536, low + (1 << 30),
            Integer.MIN_VALUE + Math.max(0, low), Integer.MAX_VALUE};
        for (int v : others) {
            if (v >= low && v <= high) {
                continue;
            }
            refused(what + " of " + v, scene, x -> call.on(x, v), Check.BEYOND);
        }
    }

    /** The call answers no finding, and none is counted. */
    static void taken(String what, Scene scene, Act call) {
        FortyReports x = built(scene);
        int before = x.status(-1);
        long answer = call.on(x);
        if (answer < -1000000000L) {
            Check.fail(what + ": refused with " + answer);
        }
        Check.due(what + ": findings", x.status(-1), before);
    }

    /** Two calls leave the same behind them. */
    static void leaveTheSame(String what, Scene scene, Act one, Act other) {
        for (Probe probe : Probe.values()) {
            FortyReports x = built(scene);
            FortyReports y = built(scene);
            one.on(x);
            other.on(y);
            same(what, probe, x, y);
        }
    }

    private static void answers(String what, Scene scene, Act call, long answer, int finding) {
        for (Probe probe : Probe.values()) {
            FortyReports x = built(scene);
            FortyReports y = built(scene);
            Check.due(what, call.on(x), answer);
            if (probe == Probe.SCHOOL) {
                counted(what, x, y, finding);
            }
            same(what, probe, x, y);
        }
    }

    private static void counted(String what, FortyReports x, FortyReports y, int finding) {
        for (int which = -1; which < 7; which++) {
            boolean isMore = finding != NO_FINDING && (which == -1 || which == Check.BEYOND - finding);
            Check.due(what + ": status " + which, x.status(which), y.status(which) + (isMore ? 1 : 0));
        }
    }

    private static void same(String what, Probe probe, FortyReports x, FortyReports y) {
        List<Long> got = probe.of(x);
        List<Long> want = probe.of(y);
        if (!got.equals(want)) {
            Check.fail(what + ": " + probe + " is changed: " + got + ", due is " + want);
        }
    }
}
