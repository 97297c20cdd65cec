/** What the tests have in common: they print each answer that is not due, and end with 1 if there was one. */
final class Check {
    static final int BEYOND = -1000000001;
    static final int FULL = -1000000002;
    static final int KIND = -1000000003;
    static final int NONE = -1000000004;
    static final int STATE = -1000000005;
    static final int MISSING = -1000000006;
    static final int SIZE = -1000000007;

    static final int LINE = 0;
    static final int SEEN = 1;
    static final int HEAPED = 2;
    static final int LEANED = 3;
    static final int COPIED = 4;
    static final int CODED = 5;
    static final int LEFT = 6;

    private static int wrong = 0;

    private Check() {
    }

    static void due(String what, long got, long want) {
        if (got != want) {
            wrong++;
            System.out.println(what + ": answered " + got + ", due is " + want);
        }
    }

    static void fail(String what) {
        wrong++;
        System.out.println(what);
    }

    static void end() {
        if (wrong != 0) {
            System.out.println(wrong + " answers are not as due");
            System.exit(1);
        }
    }

    /** An object with so many children whose traits are all 0. */
    static FortyReports withChildren(int n) {
        FortyReports x = new FortyReports();
        for (int i = 0; i < n; i++) {
            due("child of " + n, x.child(0, 0, 0, 0), i);
        }
        return x;
    }

    /** The tape gets a text behind it, byte by byte. */
    static void feedAll(FortyReports x, String text) {
        int had = x.count(4);
        for (int i = 0; i < text.length(); i++) {
            due("feed of " + text, x.feed(text.charAt(i), 1), had + i + 1);
        }
    }

    static int told(FortyReports x, String text) {
        feedAll(x, text);
        return x.text();
    }
}
