/** Promises 30 to 32. */
final class HeapTextTest {
    public static void main(String[] args) {
        feed();
        wipe();
        lines();
        children();
        writer();
        faults();
        faultsOfRoom();
        faultChangesNothing();
        Check.end();
    }

    private static void feed() {
        FortyReports x = new FortyReports();
        Check.due("30 lowest bytes, the highest first", x.feed(0x7f6c6566, 3), 3);
        Check.due("30 one", x.feed(0x12345674, 1), 4);
        Check.due("30 four", x.feed(0x20776f72, 4), 8);
        Check.due("30 two", x.feed(0xffff6b30, 2), 10);
        Check.due("30 one more", x.feed(0x30, 1), 11);
        Check.due("30 left work00", x.text(), -1 - 11);
        Check.due("30 n 0", x.feed(0, 0), Check.BEYOND);
        Check.due("30 n 5", x.feed(0, 5), Check.BEYOND);
        Check.due("30 n below", x.feed(0, -1), Check.BEYOND);
        for (int i = 1; i <= 29; i++) {
            Check.due("30 on", x.feed(0x20202020, 4), 4 * i);
        }
        Check.due("30 three more", x.feed(0x20202020, 3), 119);
        Check.due("30 no room for two", x.feed(0x20202020, 2), Check.FULL);
        Check.due("30 beyond is asked first", x.feed(0x20202020, 5), Check.BEYOND);
        Check.due("30 nothing came", x.count(4), 119);
        Check.due("30 the last", x.feed(0x3b, 1), 120);
        Check.due("30 no more", x.feed(0x20, 1), Check.FULL);
        Check.due("30 at the last place", x.text(), -1 - 119);
    }

    private static void wipe() {
        FortyReports x = new FortyReports();
        Check.due("31 nothing", x.wipe(), 0);
        Check.feedAll(x, "line ");
        Check.due("31 five", x.wipe(), 5);
        Check.due("31 empty", x.count(4), 0);
        Check.due("31 what was there is gone", Check.told(x, "left work 0 0"), 1);
    }

    private static void lines() {
        FortyReports x = new FortyReports();
        String[] kinds = {"line", "seen", "heaped", "leaned", "copied", "coded", "left"};
        String[] traits = {"work", "conduct", "hand", "voice"};
        for (int k = 0; k < 7; k++) {
            Check.due("32 " + kinds[k], Check.told(x, kinds[k] + " " + traits[k % 4] + " 1 " + (k + 1)), 1);
            Check.due("32 kind", x.lineOf(k, 0), k);
            Check.due("32 trait", x.lineOf(k, 1), k % 4);
            Check.due("32 low", x.lineOf(k, 2), 1);
            Check.due("32 high", x.lineOf(k, 3), k + 1);
            Check.due("32 words", x.lineOf(k, 4), 8);
        }
        Check.due("32 tape is empty", x.count(4), 0);
        Check.due("32 words", Check.told(x, "  line hand 0 9 words 40;seen work0 0words1  ;left work 00 009 "), 3);
        Check.due("32 words 40", x.lineOf(7, 4), 40);
        Check.due("32 words 1", x.lineOf(8, 4), 1);
        Check.due("32 zeros ahead", x.lineOf(9, 3), 9);
        Check.due("32 lines", x.count(1), 10);
    }

    private static void children() {
        FortyReports x = new FortyReports();
        Check.due("32 child", Check.told(x, "child 1 2 3 4"), 1);
        int[] plain = {1, 2, 3, 4, 5, 0, -1, 0, 0};
        for (int what = 0; what < 9; what++) {
            Check.due("32 of " + what, x.of(0, what), plain[what]);
        }
        Check.due("32 more", Check.told(x, "child 0 0 0 9 seen 0 girl of 0;child 9 0 0 0 of 1; child 0 9 0 0girl"), 3);
        int[] whole = {0, 0, 0, 9, 0, 1, 0, 0, 0};
        for (int what = 0; what < 9; what++) {
            Check.due("32 of " + what, x.of(1, what), whole[what]);
        }
        Check.due("32 a brother of the same text", x.of(2, 6), 1);
        Check.due("32 seen by itself", x.of(2, 4), 5);
        Check.due("32 girl alone", x.of(3, 5), 1);
        Check.due("32 no brother", x.of(3, 6), -1);
        Check.due("32 seen behind a sign is a kind", Check.told(x, "child 0 0 0 0 seen 9;seen work 0 1"), 2);
        Check.due("32 seen 9", x.of(4, 4), 9);
        Check.due("32 a line", x.count(1), 1);
    }

    private static void writer() {
        FortyReports x = new FortyReports();
        Check.due("32 writer", Check.told(x, "patience 1; length 1 ;patience 5"), 3);
        Check.due("32 patience, the latest", x.now(1), 5);
        Check.due("32 length", x.now(2), 1);
        Check.due("32 the greatest", Check.told(x, "length 99"), 1);
        Check.due("32 length 99", x.now(2), 99);
    }

    private static void faults() {
        fault("|");
        fault("   |");
        fault("|;");
        fault("|5");
        fault("line|");
        fault("line |;");
        fault("line |line 1 2");
        fault("line |5");
        fault("line work |words 8");
        fault("line work |10 12");
        fault("line work |100 1");
        fault("line work 1 |10");
        fault("line work 5 |4");
        fault("line work 5 5 |5");
        fault("line work 5 5 |word 5");
        fault("line work 5 5 words|");
        fault("line work 5 5 words |0");
        fault("line work 5 5 words |41");
        fault("line work 5 5 words |;");
        fault("line work 5 5 words 5 |words 5");
        fault("line work 5 5;|");
        fault("line work 5 5; |;");
        fault("line work 5 5; |work");
        fault("line work 5 5 |line work 5 5");
        fault("|linework 5 5");
        fault("|linez work 5 5");
        fault("line work|{5 5");
        fault("line work|`5 5");
        fault("|Line work 5 5");
        fault("line work |-1 5");
        fault("line work 1|,5");
        fault("line|\u0009work 1 5");
        fault("line work 1 5|\u00e9");
        fault("line work 1 5|\u0000");
        fault("child 1 2 3|");
        fault("child 1 2 3 |girl");
        fault("child 1 2 3 |10");
        fault("child 1 2 3 4 |5");
        fault("child 1 2 3 4 girl |girl");
        fault("child 1 2 3 4 girl |seen 2");
        fault("child 1 2 3 4 seen |10");
        fault("child 1 2 3 4 seen |girl");
        fault("child 1 2 3 4 of |0");
        fault("child 1 2 3 4; child 1 2 3 4 of |1");
        fault("child 1 2 3 4; child 1 2 3 4 of 0 |girl");
        fault("child 1 2 3 4 of|");
        fault("patience |0");
        fault("patience |100");
        fault("patience |00100");
        fault("patience |99999999999999999999");
        fault("length |line");
        fault("length |");
        fault("length 8 |8");
        fault("|girl");
        fault("|work");
        fault("|words 8");
        fault("patience 9; length |0; line");
    }

    /** The sign | marks the place of the fault, and is no part of the text. */
    private static void fault(String marked) {
        FortyReports x = new FortyReports();
        Check.due("32 text " + marked, Check.told(x, marked.replace("|", "")), -1 - marked.indexOf('|'));
        Check.due("32 no finding", x.status(-1), 0);
        Check.due("32 the tape is empty", x.count(4), 0);
        Check.due("32 nothing came", x.count(0) + x.count(1), 0);
        Check.due("32 patience stays", x.now(1), 20);
        Check.due("32 length stays", x.now(2), 60);
    }

    private static void faultsOfRoom() {
        FortyReports x = Check.withChildren(11);
        for (int i = 0; i < 11; i++) {
            x.line(0, 0, 0, 0, 1);
        }
        Check.due("32 a 13th line", Check.told(x, "line work 0 0; seen work 0 0"), -1 - 15);
        Check.due("32 a 13th child", Check.told(x, "child 0 0 0 0 of 10;child 9 9"), -1 - 20);
        Check.due("32 nothing came", x.count(0) + x.count(1), 22);
        Check.due("32 a 12th of both", Check.told(x, "line work 0 0;child 0 0 0 0 of 10;length 9"), 3);
        Check.due("32 both came", x.count(0) + x.count(1), 24);
        Check.due("32 brother 10", x.of(11, 6), 10);
        Check.due("32 seen is a kind, too", Check.told(x, " seen"), -1 - 1);
    }

    private static void faultChangesNothing() {
        FortyReports x = Check.withChildren(1);
        x.line(Check.LINE, 0, 0, 0, 1);
        x.put(0, 0, true);
        Check.due("32 fault", Check.told(x, "child 1 1 1 1;length 5;line hand 1 2;x"), -1 - 37);
        Check.due("32 children", x.count(0), 1);
        Check.due("32 lines", x.count(1), 1);
        Check.due("32 length", x.now(2), 60);
        Check.due("32 report", x.of(0, 7), 1);
        Check.due("32 then", Check.told(x, "child 1 1 1 1"), 1);
        Check.due("32 a new report is none", x.of(1, 7), 0);
        Check.due("32 the old one stays", x.of(0, 7), 1);
    }
}
