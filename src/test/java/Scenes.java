/** Objects to begin with. */
final class Scenes {
    private Scenes() {
    }

    static void none(FortyReports x) {
    }

    /** Three children, a line of each kind, reports, a tired writer, three sheets, a text, and an image of less. */
    static void three(FortyReports x) {
        x.child(1, 4, 9, 0);
        x.line(Check.LINE, 0, 1, 5, 9);
        x.years(1);
        x.image();
        x.child(6, 0, 9, 2);
        x.child(1, 8, 3, 7);
        x.set(1, 5, 1);
        x.set(2, 4, 2);
        x.set(2, 6, 0);
        x.line(Check.SEEN, 1, 0, 4, 8);
        x.line(Check.HEAPED, 2, 0, 9, 12);
        x.line(Check.LEANED, 3, 1, 7, 3);
        x.line(Check.COPIED, 0, 0, 0, 4);
        x.line(Check.CODED, 3, 2, 6, 40);
        x.line(Check.LEFT, 1, 3, 3, 1);
        x.put(0, 0, true);
        x.put(0, 4, true);
        x.put(2, 4, true);
        x.put(2, 5, true);
        x.writer(0, 9);
        x.writer(1, 30);
        x.writer(2, 70);
        x.years(2);
        x.sheet(0, 8, 3);
        x.write(0, 0, 5L);
        x.write(0, 2, -7L);
        x.sheet(1, 16, 40);
        x.write(1, 0, 300L);
        x.write(1, 39, 2L);
        x.sheet(2, 64, 0);
        tape(x, "child 1 2 3 4 seen 6 girl;length 50;line work 2 3");
    }

    /** Twelve of both, a tape of 120 bytes, four sheets of 40. */
    static void full(FortyReports x) {
        for (int i = 0; i < 12; i++) {
            x.child(i % 10, i / 10, 9 - i % 10, 5);
            x.line(i % 7, i % 2, i % 5, 5 + i % 5, 1 + i);
            x.put(i, i, true);
        }
        x.image();
        x.set(11, 6, 10);
        x.set(3, 5, 1);
        x.put(10, 11, true);
        for (int s = 0; s < 4; s++) {
            x.sheet(s, 64, 40);
            x.write(s, 39, 1L << 40 + s);
        }
        StringBuilder text = new StringBuilder("patience 7");
        while (text.length() < 110) {
            text.append(' ');
        }
        tape(x, text.append(";length 31").toString());
    }

    /** As three, but without children. */
    static void nobody(FortyReports x) {
        twelveLines(x);
        x.writer(0, 9);
        x.years(2);
        x.image();
        x.writer(2, 70);
        x.sheet(0, 8, 3);
        x.write(0, 2, -7L);
        x.sheet(1, 16, 40);
        x.write(1, 0, 300L);
        tape(x, "child 1 2 3 4 seen 6 girl;length 50");
    }

    static void twelveChildren(FortyReports x) {
        for (int i = 0; i < 12; i++) {
            x.child(i % 10, i / 10, 0, 0);
        }
    }

    static void twelveLines(FortyReports x) {
        for (int i = 0; i < 12; i++) {
            x.line(Check.LINE, i % 4, 0, i % 10, 1 + i);
        }
    }

    /** The tape gets a text behind it, four bytes at a time. */
    static void tape(FortyReports x, String text) {
        for (int i = 0; i < text.length(); i += 4) {
            int n = Math.min(4, text.length() - i);
            int bytes = 0;
            for (int j = i; j < i + n; j++) {
                bytes = bytes << 8 | text.charAt(j);
            }
            x.feed(bytes, n);
        }
    }
}
