/** The edges that promises 33 to 37, and what section 3 tells of sheets, name. */
final class SheetsEdgesTest {
    private static final int[] WIDTHS = {8, 16, 64};

    public static void main(String[] args) {
        missingAtFirst();
        fourSheets();
        bitsThatMayBe();
        sheetsOf0To40();
        sheetAsksForItsFindingsInOrder();
        aSheetIsMadeAnew();
        lowestBitsOfANumber();
        writeAsksForItsFindingsInOrder();
        copyAsksForItsFindingsInOrder();
        copyWhatThereIs();
        copyWithinOneAsTheyAllWere();
        laysAsksForItsFindingsInOrder();
        laysSetsAlone();
        laysFewerAndMoreThanChildren();
        readAsksForItsFindingsInOrder();
        readFewerAndMoreThanLines();
        readIsAsIfItWasWrittenNow();
        Check.end();
    }

    private static void missingAtFirst() {
        for (int s = 0; s < 4; s++) {
            int sheet = s;
            Twins.refused("34 sheet " + s, Scenes::none, x -> x.write(sheet, 0, 0L), Check.MISSING);
            Twins.refused("35 sheet " + s, Scenes::none, x -> x.copy(sheet, 0, sheet, 0, 0), Check.MISSING);
            Twins.refused("36 sheet " + s, Scenes::none, x -> x.lays(sheet), Check.MISSING);
            Twins.refused("37 sheet " + s, Scenes::none, x -> x.read(sheet, 0), Check.MISSING);
        }
    }

    private static void fourSheets() {
        Twins.range("33 sheet", Scenes::three, 0, 3, (x, v) -> x.sheet(v, 8, 5));
        Twins.range("33 sheet, missing", Scenes::three, 0, 3, (x, v) -> x.sheet(v, 0, 5));
        Twins.range("34 sheet", Scenes::full, 0, 3, (x, v) -> x.write(v, 0, 1L));
        Twins.range("35 sheet", Scenes::full, 0, 3, (x, v) -> x.copy(v, 0, 1, 0, 1));
        Twins.range("35 other sheet", Scenes::full, 0, 3, (x, v) -> x.copy(1, 0, v, 0, 1));
        Twins.range("36 sheet", Scenes::full, 0, 3, (x, v) -> x.lays(v));
        Twins.range("37 sheet", Scenes::full, 0, 3, (x, v) -> x.read(v, 0));
        FortyReports x = Twins.built(Scenes::full);
        for (int s = 0; s < 4; s++) {
            Check.due("34 each of its own", x.write(s, 39, 0L), 1L << 40 + s);
        }
    }

    private static void bitsThatMayBe() {
        for (int bits = -70; bits <= 140; bits++) {
            int of = bits;
            if (bits == 8 || bits == 16 || bits == 64) {
                Twins.taken("33 bits " + bits, Scenes::three, x -> x.sheet(1, of, 5));
            } else if (bits != 0) {
                Twins.refused("33 bits " + bits, Scenes::three, x -> x.sheet(1, of, 5), Check.BEYOND);
            }
        }
        Twins.refused("33 bits that wrap around to 8", Scenes::three, x -> x.sheet(1, 256 + 8, 5), Check.BEYOND);
        Twins.refused("33 the least bits", Scenes::three, x -> x.sheet(1, Integer.MIN_VALUE, 5), Check.BEYOND);
        Twins.refused("33 the most bits", Scenes::three, x -> x.sheet(1, Integer.MAX_VALUE, 5), Check.BEYOND);
        FortyReports x = Twins.built(Scenes::three);
        Check.due("33 bits 0", x.sheet(1, 0, 40), 0);
        Check.due("33 it is missing", x.lays(1), Check.MISSING);
        Check.due("33 missing already", x.sheet(1, 0, 0), 0);
        Check.due("33 the others stay", x.write(0, 2, 0L), -7L);
    }

    private static void sheetsOf0To40() {
        for (int bits : WIDTHS) {
            Twins.taken("33 n 0", Scenes::three, x -> x.sheet(3, bits, 0));
            Twins.taken("33 n 40", Scenes::three, x -> x.sheet(3, bits, 40));
            for (int n = 0; n <= 40; n++) {
                FortyReports x = Twins.built(Scenes::three);
                Check.due("33 n " + n, x.sheet(0, bits, n), n);
                for (int i = 0; i < n; i++) {
                    Check.due("33 all 0", x.write(0, i, 1L), 0L);
                }
                Check.due("34 no more than " + n, x.write(0, n, 1L), Check.BEYOND);
                Check.due("34 none below 0", x.write(0, -1, 1L), Check.BEYOND);
            }
        }
        int[] above = {41, 42, 256, 1 << 30, Integer.MAX_VALUE};
        int[] below = {-1, -2, -256, Integer.MIN_VALUE + 40, Integer.MIN_VALUE};
        int[] widths = {0, 8, 16, 64};
        for (int bits : widths) {
            for (int i = 0; i < 5; i++) {
                int more = above[i];
                int fewer = below[i];
                Twins.refused("33 n " + more + ", bits " + bits, Scenes::three, x -> x.sheet(1, bits, more), Check.BEYOND);
                Twins.refused("33 n " + fewer + ", bits " + bits, Scenes::three, x -> x.sheet(1, bits, fewer), Check.SIZE);
            }
            Twins.taken("33 0, bits " + bits, Scenes::three, x -> x.sheet(1, bits, 0));
            Twins.taken("33 40, bits " + bits, Scenes::three, x -> x.sheet(1, bits, 40));
        }
    }

    private static void sheetAsksForItsFindingsInOrder() {
        Twins.refused("33 sheet ahead of size", Scenes::three, x -> x.sheet(4, 8, -1), Check.BEYOND);
        Twins.refused("33 sheet below ahead of size", Scenes::three, x -> x.sheet(-1, 0, -1), Check.BEYOND);
        Twins.refused("33 bits ahead of size", Scenes::three, x -> x.sheet(0, 32, -1), Check.BEYOND);
        Twins.refused("33 sheet and bits and n", Scenes::three, x -> x.sheet(4, 7, 41), Check.BEYOND);
    }

    private static void aSheetIsMadeAnew() {
        FortyReports x = Twins.built(Scenes::three);
        x.sheet(1, 16, 40);
        Check.due("33 all 0 again", x.write(1, 0, 1L) + x.write(1, 39, 1L), 0L);
        x.sheet(1, 16, 2);
        x.sheet(1, 16, 40);
        Check.due("33 nothing is left of it", x.write(1, 39, 5L), 0L);
        x.sheet(1, 0, 40);
        x.sheet(1, 8, 40);
        Check.due("33 nor when it was missing", x.write(1, 39, 0x1ffL), 0L);
        Check.due("33 of other bits now", x.write(1, 39, 0L), -1L);
    }

    private static void lowestBitsOfANumber() {
        // of 8 and 16 bits a number has a sign as Java's own: what comes back is byte, short, long
        long[] numbers = {0, 1, -1, 127, 128, 255, 256, 257, -128, -129, 32767, 32768, 65535, 65536, -32768, -32769,
            1L << 32, (1L << 32) + 5, Integer.MAX_VALUE, Integer.MIN_VALUE, Long.MAX_VALUE, Long.MIN_VALUE,
            Check.BEYOND, Check.SIZE};
        FortyReports x = new FortyReports();
        x.sheet(0, 8, 1);
        x.sheet(1, 16, 1);
        x.sheet(2, 64, 1);
        for (long v : numbers) {
            for (int s = 0; s < 3; s++) {
                x.write(s, 0, v);
            }
            Check.due("34 of 8 bits, " + v, x.write(0, 0, 0L), (byte) v);
            Check.due("34 of 16 bits, " + v, x.write(1, 0, 0L), (short) v);
            Check.due("34 of 64 bits, " + v, x.write(2, 0, 0L), v);
        }
        Check.due("34 a number that looks like a finding is none", x.status(-1), 0);
    }

    private static void writeAsksForItsFindingsInOrder() {
        Twins.range("34 number of 3", Scenes::three, 0, 2, (x, v) -> x.write(0, v, 9L));
        Twins.range("34 number of 40", Scenes::three, 0, 39, (x, v) -> x.write(1, v, 9L));
        Twins.beyond("34 number of none", Scenes::three, 0, -1, (x, v) -> x.write(2, v, 9L));
        Twins.refused("34 the first of none", Scenes::three, x -> x.write(2, 0, 9L), Check.BEYOND);
        Twins.refused("34 missing", Scenes::three, x -> x.write(3, 0, 9L), Check.MISSING);
        Twins.refused("34 missing ahead of the number", Scenes::three, x -> x.write(3, -1, 9L), Check.MISSING);
        Twins.refused("34 missing ahead of the number above", Scenes::three, x -> x.write(3, 40, 9L), Check.MISSING);
        Twins.refused("34 no such sheet, no such number", Scenes::none, x -> x.write(4, 99, 9L), Check.BEYOND);
        Twins.asks("34 what it is already", Scenes::three, x -> x.write(0, 2, -7L), -7L);
    }

    private static void copyAsksForItsFindingsInOrder() {
        Twins.refused("35 sheet ahead of missing", Scenes::three, x -> x.copy(4, 0, 3, 0, 0), Check.BEYOND);
        Twins.refused("35 other sheet ahead of missing", Scenes::three, x -> x.copy(3, 0, 4, 0, 0), Check.BEYOND);
        Twins.refused("35 both", Scenes::three, x -> x.copy(-1, 0, -1, 0, 0), Check.BEYOND);
        Twins.refused("35 missing", Scenes::three, x -> x.copy(3, 0, 0, 0, 0), Check.MISSING);
        Twins.refused("35 the other is missing", Scenes::three, x -> x.copy(0, 0, 3, 0, 0), Check.MISSING);
        Twins.refused("35 missing ahead of beyond", Scenes::three, x -> x.copy(0, -1, 3, 0, 0), Check.MISSING);
        Twins.refused("35 missing both", Scenes::three, x -> x.copy(3, 0, 3, 0, 41), Check.MISSING);
        Twins.refused("35 kind", Scenes::three, x -> x.copy(0, 0, 1, 0, 1), Check.KIND);
        Twins.refused("35 kind of none", Scenes::three, x -> x.copy(0, 0, 1, 0, 0), Check.KIND);
        Twins.refused("35 kind of an empty one", Scenes::three, x -> x.copy(2, 0, 1, 0, 0), Check.KIND);
        Twins.refused("35 kind ahead of from", Scenes::three, x -> x.copy(0, -1, 1, 0, 1), Check.KIND);
        Twins.refused("35 kind ahead of to", Scenes::three, x -> x.copy(0, 0, 1, 41, 1), Check.KIND);
        Twins.refused("35 kind ahead of n", Scenes::three, x -> x.copy(0, 0, 1, 0, -1), Check.KIND);
        Twins.range("35 from", Scenes::three, 0, 2, (x, v) -> x.copy(0, v, 0, 0, 1));
        Twins.range("35 to", Scenes::three, 0, 39, (x, v) -> x.copy(1, 0, 1, v, 1));
        Twins.range("35 n", Scenes::three, 0, 40, (x, v) -> x.copy(1, 0, 1, 0, v));
        for (int s = 0; s < 3; s++) {
            for (int t = 0; t < 3; t++) {
                int from = s;
                int to = t;
                int due = WIDTHS[s] == WIDTHS[t] ? 0 : Check.KIND;
                FortyReports x = Twins.built(Scenes::three);
                Check.due("35 " + WIDTHS[s] + " to " + WIDTHS[t], x.copy(from, 0, to, 0, 0), due);
            }
        }
    }

    /** Sheet 0 of five numbers, 1 to 5; sheet 1 of three; sheet 2 of none. */
    private static void five(FortyReports x) {
        x.sheet(0, 16, 5);
        for (int i = 0; i < 5; i++) {
            x.write(0, i, i + 1L);
        }
        x.sheet(1, 16, 3);
        x.sheet(2, 16, 0);
    }

    private static void copyWhatThereIs() {
        for (int from = -1; from <= 6; from++) {
            for (int to = -1; to <= 4; to++) {
                for (int n = -1; n <= 6; n++) {
                    copyOf(from, to, n);
                }
            }
        }
        int[] far = {Integer.MAX_VALUE, Integer.MIN_VALUE, 65536, 1 << 30, -256};
        for (int v : far) {
            Twins.refused("35 from " + v, SheetsEdgesTest::five, x -> x.copy(0, v, 1, 0, 1), Check.BEYOND);
            Twins.refused("35 to " + v, SheetsEdgesTest::five, x -> x.copy(0, 0, 1, v, 1), Check.BEYOND);
            Twins.refused("35 n " + v, SheetsEdgesTest::five, x -> x.copy(0, 0, 1, 0, v), Check.BEYOND);
            Twins.refused("35 n " + v + " from 1", SheetsEdgesTest::five, x -> x.copy(0, 1, 1, 1, v), Check.BEYOND);
            Twins.refused("35 all " + v, SheetsEdgesTest::five, x -> x.copy(0, v, 1, v, v), Check.BEYOND);
        }
        Twins.asks("35 none of none", SheetsEdgesTest::five, x -> x.copy(2, 0, 2, 0, 0), 0);
        Twins.refused("35 one of none", SheetsEdgesTest::five, x -> x.copy(2, 0, 0, 0, 1), Check.BEYOND);
        Twins.refused("35 one to none", SheetsEdgesTest::five, x -> x.copy(0, 0, 2, 0, 1), Check.BEYOND);
        FortyReports x = Twins.built(Scenes::full);
        Check.due("35 all forty", x.copy(0, 0, 3, 0, 40), 40);
        Check.due("35 the last of them", x.write(3, 39, 0L), 1L << 40);
        Check.due("35 which stays", x.write(0, 39, 0L), 1L << 40);
    }

    private static void copyOf(int from, int to, int n) {
        String what = "35 from " + from + " to " + to + ", " + n;
        if (from < 0 || to < 0 || n < 0 || from + n > 5 || to + n > 3) {
            Twins.refused(what, SheetsEdgesTest::five, x -> x.copy(0, from, 1, to, n), Check.BEYOND);
            return;
        }
        FortyReports x = Twins.built(SheetsEdgesTest::five);
        Check.due(what, x.copy(0, from, 1, to, n), n);
        for (int i = 0; i < 3; i++) {
            Check.due(what + ", number " + i, x.write(1, i, 0L), i < to || i >= to + n ? 0 : from + i - to + 1);
        }
        for (int i = 0; i < 5; i++) {
            Check.due(what + ", it stays, number " + i, x.write(0, i, 0L), i + 1);
        }
    }

    private static void copyWithinOneAsTheyAllWere() {
        for (int from = 0; from <= 5; from++) {
            for (int to = 0; to <= 5; to++) {
                for (int n = 0; n <= 5 - Math.max(from, to); n++) {
                    FortyReports x = Twins.built(SheetsEdgesTest::five);
                    Check.due("35 within", x.copy(0, from, 0, to, n), n);
                    for (int i = 0; i < 5; i++) {
                        int due = i < to || i >= to + n ? i + 1 : from + i - to + 1;
                        Check.due("35 within from " + from + " to " + to + ", " + n, x.write(0, i, 0L), due);
                    }
                }
            }
        }
    }

    private static void laysAsksForItsFindingsInOrder() {
        Twins.beyond("36 sheet", Scenes::three, 0, 3, (x, v) -> x.lays(v));
        Twins.refused("36 missing", Scenes::three, x -> x.lays(3), Check.MISSING);
        Twins.asks("36 an empty sheet", Scenes::three, x -> x.lays(2), 0);
        Twins.asks("36 nobody is there", x -> x.sheet(0, 8, 40), x -> x.lays(0), 0);
    }

    private static void laysSetsAlone() {
        // 12 lines: sets are 0 to 4095; none: 0 alone
        long[] none = {4096, -1, Long.MIN_VALUE, Long.MAX_VALUE, 1L << 32, (1L << 32) + 1, Integer.MIN_VALUE, 1L << 31};
        for (long v : none) {
            Twins.Scene laid = x -> {
                Scenes.full(x);
                x.write(0, 0, v);
                x.write(0, 1, v);
                for (int i = 2; i < 12; i++) {
                    x.write(0, i, x.of(i, 7));
                }
            };
            Twins.asks("36 left out: " + v, laid, x -> x.lays(0), 10);
        }
        FortyReports x = Twins.built(Scenes::full);
        x.write(0, 0, 4095L);
        x.write(0, 11, 1L);
        Check.due("36 all came", x.lays(0), 12);
        Check.due("36 all lines", x.of(0, 7), 4095);
        Check.due("36 none is a set, too", x.of(1, 7), 0);
        Check.due("36 the last child", x.of(11, 7), 1);
        FortyReports y = Twins.built(Scenes::twelveChildren);
        y.sheet(0, 8, 12);
        y.write(0, 3, 1L);
        y.write(0, 4, -1L);
        Check.due("36 without lines 0 alone", y.lays(0), 10);
        Check.due("36 none", y.count(2), 0);
        for (int lines = 1; lines <= 12; lines++) {
            FortyReports z = Check.withChildren(2);
            for (int i = 0; i < lines; i++) {
                z.line(Check.LEFT, 0, 0, 0, 1);
            }
            z.sheet(0, 64, 2);
            z.write(0, 0, (1L << lines) - 1);
            z.write(0, 1, 1L << lines);
            Check.due("36 of " + lines, z.lays(0), 1);
            Check.due("36 all of " + lines, z.of(0, 7), (1 << lines) - 1);
            Check.due("36 one more than " + lines, z.of(1, 7), 0);
        }
    }

    private static void laysFewerAndMoreThanChildren() {
        for (int n = 0; n <= 5; n++) {
            FortyReports x = Twins.built(Scenes::three);
            x.tear(7);
            x.put(2, 6, true);
            x.sheet(1, 16, n);
            for (int i = 0; i < n; i++) {
                x.write(1, i, 3L);
            }
            Check.due("36 " + n + " for three", x.lays(1), Math.min(3, n));
            for (int i = 0; i < 3; i++) {
                Check.due("36 child " + i + " by " + n, x.of(i, 7), i < n ? 3 : i == 2 ? 64 : 0);
            }
            Check.due("36 nobody was tired by it", x.now(0), 9);
        }
    }

    private static void readAsksForItsFindingsInOrder() {
        Twins.range("37 child", Scenes::three, 0, 2, (x, v) -> x.read(1, v));
        Twins.range("37 child, by an empty sheet", Scenes::three, 0, 2, (x, v) -> x.read(2, v));
        Twins.range("37 child of twelve", Scenes::full, 0, 11, (x, v) -> x.read(3, v));
        Twins.beyond("37 sheet", Scenes::three, 0, 3, (x, v) -> x.read(v, 0));
        Twins.refused("37 no such sheet, no such child", Scenes::three, x -> x.read(4, 3), Check.BEYOND);
        Twins.refused("37 missing", Scenes::three, x -> x.read(3, 0), Check.MISSING);
        Twins.refused("37 missing ahead of the child", Scenes::three, x -> x.read(3, 3), Check.MISSING);
        Twins.refused("37 missing ahead of the child below", Scenes::none, x -> x.read(0, -1), Check.MISSING);
    }

    private static void readFewerAndMoreThanLines() {
        for (int lines = 0; lines <= 12; lines++) {
            int used = Math.min(6, lines);
            for (int n = 0; n <= 8; n++) {
                FortyReports x = Check.withChildren(1);
                for (int i = 0; i < lines; i++) {
                    x.line(Check.LINE, 0, 0, 0, 1);
                }
                x.sheet(0, 8, n);
                for (int i = 0; i < n; i++) {
                    x.write(0, i, i);
                }
                int due = n == used ? 0 : 1 + Math.min(n, used);
                Check.due("37 " + n + " numbers for " + lines + " lines", x.read(0, 0), due);
                for (int i = 0; i < Math.min(n, used); i++) {
                    x.write(0, i, 12L);
                    Check.due("37 the first that isn't, " + i, x.read(0, 0), 1 + i);
                    x.write(0, i, i);
                }
            }
        }
    }

    private static void readIsAsIfItWasWrittenNow() {
        FortyReports x = Check.withChildren(1);
        x.line(Check.LINE, 0, 0, 0, 1);
        x.line(Check.HEAPED, 0, 0, 0, 1);
        x.sheet(0, 64, 2);
        x.write(0, 1, 1L);
        Check.due("37 both", x.read(0, 0), 0);
        x.writer(0, 20);
        Check.due("37 too tired for the first", x.read(0, 0), 1);
        x.writer(0, 19);
        Check.due("37 not yet", x.read(0, 0), 0);
        x.writer(2, 1);
        Check.due("37 too long for the second", x.read(0, 0), 2);
        x.writer(2, 2);
        x.put(0, 0, true);
        Check.due("37 not the report that stands", x.read(0, 0), 0);
        long[] others = {-1, 1L << 32, 256, 12};
        for (long v : others) {
            x.write(0, 0, v);
            Check.due("37 no line: " + v, x.read(0, 0), 1);
        }
        Twins.asks("37 asks only", Scenes::three, y -> y.read(2, 1), 1);
    }
}
