/** Promises 33 to 37. */
final class SheetsTest {
    public static void main(String[] args) {
        sheet();
        write();
        copy();
        copyAsTheyWere();
        lays();
        read();
        Check.end();
    }

    private static void sheet() {
        FortyReports x = new FortyReports();
        Check.due("33 of 8 bits", x.sheet(0, 8, 40), 40);
        Check.due("33 of 16 bits", x.sheet(3, 16, 1), 1);
        Check.due("33 of none", x.sheet(1, 64, 0), 0);
        Check.due("33 missing", x.sheet(0, 0, 7), 0);
        Check.due("33 it is missing", x.write(0, 0, 1L), Check.MISSING);
        Check.due("33 no such sheet", x.sheet(4, 8, 1), Check.BEYOND);
        Check.due("33 no such sheet below", x.sheet(-1, 8, -1), Check.BEYOND);
        Check.due("33 other bits", x.sheet(0, 32, -1), Check.BEYOND);
        Check.due("33 bits below", x.sheet(0, -8, 1), Check.BEYOND);
        Check.due("33 n below 0", x.sheet(3, 8, -1), Check.SIZE);
        Check.due("33 n below 0 without bits", x.sheet(3, 0, -1), Check.SIZE);
        Check.due("33 n above", x.sheet(3, 8, 41), Check.BEYOND);
        Check.due("33 n above without bits", x.sheet(3, 0, 41), Check.BEYOND);
        Check.due("33 findings leave it", x.write(3, 0, 5L), 0L);
        Check.due("33 made anew", x.sheet(3, 16, 2), 2);
        Check.due("33 all 0", x.write(3, 0, 1L), 0L);
    }

    private static void write() {
        FortyReports x = new FortyReports();
        x.sheet(0, 8, 2);
        x.sheet(1, 16, 2);
        x.sheet(2, 64, 2);
        Check.due("34 was 0", x.write(0, 1, 127L), 0L);
        Check.due("34 was 127", x.write(0, 1, 256L + 3L), 127L);
        Check.due("34 lowest 8 bits", x.write(0, 1, -1L), 3L);
        Check.due("34 of 8 with a sign", x.write(0, 1, 128L), -1L);
        Check.due("34 128 of 8", x.write(0, 1, 0L), -128L);
        Check.due("34 of 16", x.write(1, 0, 65536L + 300L), 0L);
        Check.due("34 lowest 16 bits", x.write(1, 0, 32768L), 300L);
        Check.due("34 of 16 with a sign", x.write(1, 0, 0L), -32768L);
        Check.due("34 of 64", x.write(2, 0, Long.MIN_VALUE), 0L);
        Check.due("34 all of them", x.write(2, 0, -1000000001L), Long.MIN_VALUE);
        Check.due("34 a number like a finding", x.write(2, 0, 0L), -1000000001L);
        Check.due("34 is none", x.status(-1), 0);
        Check.due("34 the other stays", x.write(2, 1, 0L), 0L);
        Check.due("34 no such sheet", x.write(4, 0, 0L), Check.BEYOND);
        Check.due("34 missing is asked ahead", x.write(3, 99, 0L), Check.MISSING);
        Check.due("34 no such number", x.write(2, 2, 0L), Check.BEYOND);
        Check.due("34 no such number below", x.write(2, -1, 0L), Check.BEYOND);
        Check.due("34 findings", x.status(-1), 4);
    }

    private static void copy() {
        FortyReports x = new FortyReports();
        x.sheet(0, 16, 3);
        x.sheet(1, 16, 2);
        x.sheet(2, 8, 3);
        x.write(0, 1, 7L);
        x.write(0, 2, 8L);
        Check.due("35 two", x.copy(0, 1, 1, 0, 2), 2);
        Check.due("35 first", x.write(1, 0, 0L), 7L);
        Check.due("35 second", x.write(1, 1, 0L), 8L);
        Check.due("35 none at the end", x.copy(0, 3, 1, 2, 0), 0);
        Check.due("35 no such sheet", x.copy(4, 0, 1, 0, 1), Check.BEYOND);
        Check.due("35 no such other", x.copy(3, 0, -1, 0, 1), Check.BEYOND);
        Check.due("35 missing", x.copy(3, 0, 1, 0, 1), Check.MISSING);
        Check.due("35 the other missing", x.copy(1, 0, 3, 0, -1), Check.MISSING);
        Check.due("35 other bits", x.copy(0, 0, 2, 0, 1), Check.KIND);
        Check.due("35 kind is asked ahead", x.copy(0, 0, 2, 0, 99), Check.KIND);
        Check.due("35 too many of the first", x.copy(0, 2, 1, 0, 2), Check.BEYOND);
        Check.due("35 too many of the other", x.copy(0, 0, 1, 1, 2), Check.BEYOND);
        Check.due("35 none, but beyond", x.copy(0, 4, 1, 0, 0), Check.BEYOND);
        Check.due("35 from below", x.copy(0, -1, 1, 0, 1), Check.BEYOND);
        Check.due("35 to below", x.copy(0, 0, 1, -1, 1), Check.BEYOND);
        Check.due("35 n below", x.copy(0, 1, 1, 1, -1), Check.BEYOND);
        Check.due("35 far", x.copy(0, Integer.MAX_VALUE, 1, Integer.MAX_VALUE, Integer.MAX_VALUE), Check.BEYOND);
    }

    private static void copyAsTheyWere() {
        FortyReports x = new FortyReports();
        x.sheet(0, 64, 4);
        for (int i = 0; i < 4; i++) {
            x.write(0, i, i + 1L);
        }
        Check.due("35 within one", x.copy(0, 0, 0, 1, 3), 3);
        long[] up = {1, 1, 2, 3};
        for (int i = 0; i < 4; i++) {
            Check.due("35 as they were", x.write(0, i, i + 1L), up[i]);
        }
        Check.due("35 within one, down", x.copy(0, 1, 0, 0, 3), 3);
        long[] down = {2, 3, 4, 4};
        for (int i = 0; i < 4; i++) {
            Check.due("35 as they were, down", x.write(0, i, 0L), down[i]);
        }
    }

    private static void lays() {
        FortyReports x = Check.withChildren(4);
        for (int i = 0; i < 9; i++) {
            x.line(Check.LINE, 0, 0, 0, 1);
        }
        x.put(0, 8, true);
        x.put(1, 8, true);
        x.put(2, 8, true);
        x.put(3, 8, true);
        x.sheet(0, 64, 5);
        x.write(0, 0, 511L);
        x.write(0, 1, 512L);
        x.write(0, 2, -1L);
        x.write(0, 4, 1L);
        Check.due("36 two came", x.lays(0), 2);
        Check.due("36 a set", x.of(0, 7), 511);
        Check.due("36 no set", x.of(1, 7), 256);
        Check.due("36 below 0", x.of(2, 7), 256);
        Check.due("36 none is a set", x.of(3, 7), 0);
        x.write(0, 0, (1L << 32) + 1L);
        Check.due("36 far above", x.lays(0), 1);
        Check.due("36 stays", x.of(0, 7), 511);
        x.sheet(1, 16, 2);
        x.write(1, 0, 3L);
        Check.due("36 fewer than children", x.lays(1), 2);
        Check.due("36 the first", x.of(0, 7), 3);
        Check.due("36 those behind stay", x.of(2, 7), 256);
        Check.due("36 no such sheet", x.lays(4), Check.BEYOND);
        Check.due("36 no such sheet below", x.lays(-1), Check.BEYOND);
        Check.due("36 missing", x.lays(3), Check.MISSING);
        Check.due("36 tires nobody", x.now(0), 0);
    }

    private static void read() {
        // for child 0 lines are used in the order 2, 0, 1
        FortyReports x = Check.withChildren(2);
        x.set(1, 0, 9);
        x.line(Check.LINE, 0, 0, 0, 5);
        x.line(Check.LINE, 0, 0, 9, 5);
        x.line(Check.SEEN, 0, 0, 0, 5);
        x.sheet(0, 8, 3);
        Check.due("37 the first isn't", x.read(0, 0), 1);
        x.write(0, 0, 2L);
        Check.due("37 the third isn't", x.read(0, 0), 3);
        x.write(0, 2, 1L);
        Check.due("37 these", x.read(0, 0), 0);
        x.sheet(1, 8, 4);
        x.copy(0, 0, 1, 0, 3);
        Check.due("37 one too many", x.read(1, 0), 4);
        x.sheet(1, 8, 2);
        x.copy(0, 0, 1, 0, 2);
        Check.due("37 more must come", x.read(1, 0), 3);
        x.sheet(2, 64, 1);
        x.write(2, 0, (1L << 32) + 2L);
        Check.due("37 no line", x.read(2, 0), 1);
        Check.due("37 of another child", x.read(0, 1), 1);
        x.writer(0, 99);
        Check.due("37 of the tired: none", x.read(0, 0), 1);
        x.sheet(2, 64, 0);
        Check.due("37 none is none", x.read(2, 0), 0);
        Check.due("37 nothing is written", x.count(2), 0);
        Check.due("37 no such sheet", x.read(4, 0), Check.BEYOND);
        Check.due("37 missing is asked ahead", x.read(3, 2), Check.MISSING);
        Check.due("37 nobody", x.read(0, 2), Check.BEYOND);
        Check.due("37 nobody below", x.read(0, -1), Check.BEYOND);
    }
}
