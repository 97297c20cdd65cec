/** The edges that promises 30 to 32, and what section 2 tells of the text, name. */
final class TextEdgesTest {
    private static final String[] KINDS = {"line", "seen", "heaped", "leaned", "copied", "coded", "left"};
    private static final String[] TRAITS = {"work", "conduct", "hand", "voice"};

    public static void main(String[] args) {
        feedTakes1To4Bytes();
        tapeOf120();
        wipeFrom0To120();
        tokensAsLongAsCanBe();
        numbersUpTo99();
        bytesThatBeginNoToken();
        blanksMayStandBetween();
        namesAsTheyAre();
        numbersOfALine();
        numbersOfAChild();
        numbersOfTheWriter();
        whatMayBeLeftOut();
        whatComesInOrder();
        tooEarly();
        itemsAndSigns();
        twelveLinesAtMost();
        twelveChildrenAtMost();
        aBrotherWhoIsThereByThen();
        seenAtTheBeginning();
        aTextOf120();
        Check.end();
    }

    private static void feedTakes1To4Bytes() {
        Twins.range("30 n", Scenes::three, 1, 4, (x, v) -> x.feed(0x20202020, v));
        Twins.beyond("30 n is asked ahead of full", Scenes::full, 1, 4, (x, v) -> x.feed(0x20202020, v));
        // the bytes of a number below 0, too; what stands above the n lowest doesn't count
        int[] bytes = {0x6c696e65, 0xff696e65, 0x80006e65, 0xffffff65};
        String[] ahead = {"", "l", "li", "lin"};
        for (int i = 0; i < 4; i++) {
            FortyReports x = new FortyReports();
            Scenes.tape(x, ahead[i]);
            Check.due("30 how many it has", x.feed(bytes[i], 4 - i), 4);
            Scenes.tape(x, " voice 0 9");
            Check.due("30 a line comes of it", x.text(), 1);
            Check.due("30 of the voice", x.lineOf(0, 1), 3);
        }
        Twins.leaveTheSame("30 the highest first", Scenes::none, x -> x.feed(0x20206e6f, 4),
                x -> x.feed(0x20, 1) + x.feed(0x20, 1) + x.feed(0x6e, 1) + x.feed(0x6f, 1));
        FortyReports x = new FortyReports();
        x.feed(-1, 4);
        Check.due("30 four bytes of 255", x.text(), -1);
        x.feed(0x3b << 24, 4);
        Check.due("30 the highest is the first", x.text(), -1);
        x.feed(0x20 << 24, 4);
        Check.due("30 a byte of 0 begins no token", x.text(), -2);
    }

    private static FortyReports blanks(int n) {
        FortyReports x = new FortyReports();
        Scenes.tape(x, " ".repeat(n));
        return x;
    }

    private static void tapeOf120() {
        for (int had = 115; had <= 120; had++) {
            int there = had;
            for (int n = 1; n <= 4; n++) {
                int more = n;
                if (had + n <= 120) {
                    Check.due("30 " + n + " behind " + had, blanks(had).feed(0x20202020, n), had + n);
                } else {
                    Twins.refused("30 " + n + " behind " + had, x -> Scenes.tape(x, " ".repeat(there)),
                            x -> x.feed(0x20202020, more), Check.FULL);
                }
            }
        }
        for (int n = 1; n <= 4; n++) {
            int more = n;
            Twins.refused("30 full", Scenes::full, x -> x.feed(0x20202020, more), Check.FULL);
        }
    }

    private static void wipeFrom0To120() {
        Twins.asks("31 nothing", Scenes::none, x -> x.wipe(), 0);
        for (int n = 0; n <= 120; n++) {
            FortyReports x = blanks(n);
            Check.due("31 had", x.wipe(), n);
            Check.due("31 empty", x.count(4), 0);
            Check.due("31 again", x.wipe(), 0);
        }
        FortyReports x = blanks(120);
        x.wipe();
        Check.due("31 there is room", x.feed(0x20202020, 4), 4);
        Check.due("32 what was wiped is no part of the text", x.text(), -5);
    }

    /** The text is taken whole: so many items. */
    private static FortyReports taken(String text, int items) {
        FortyReports x = new FortyReports();
        Scenes.tape(x, text);
        Check.due("32 " + text, x.text(), items);
        Check.due("32 the tape is empty behind " + text, x.count(4), 0);
        Check.due("32 no finding by " + text, x.status(-1), 0);
        return x;
    }

    /** The sign | marks the place of the fault, and is no part of the text. */
    private static void fault(String marked) {
        fault(Scenes::none, marked);
        fault(Scenes::three, marked);
    }

    private static void fault(Twins.Scene scene, String marked) {
        String text = marked.replace("|", "");
        Twins.Scene told = x -> {
            scene.build(x);
            x.wipe();
            Scenes.tape(x, text);
        };
        FortyReports x = Twins.built(told);
        int findings = x.status(-1);
        Check.due("32 fault of " + marked, x.text(), -1 - marked.indexOf('|'));
        Check.due("32 no finding by " + marked, x.status(-1), findings);
        Twins.leaveTheSame("32 as if it was wiped: " + marked, told, y -> y.text(), y -> y.wipe());
    }

    private static void tokensAsLongAsCanBe() {
        fault("|linework 0 9");
        fault("line |workconduct 0 9");
        fault("line work |90 9");
        fault("line work 0 |19");
        fault("patience 1 |00");
        fault("|patiencelength 5");
        taken("line work 00 09", 1);
        taken("line work0 9words8", 1);
        taken("line work 0 9;line work 0 9", 2);
        taken("child1 2 3 4seen5girl;child1 2 3 4of0", 2);
        taken("patience5;length5", 2);
    }

    private static void numbersUpTo99() {
        taken("patience 99", 1);
        taken("patience 099", 1);
        taken("patience 0000000099", 1);
        taken("patience 01", 1);
        fault("patience |100");
        fault("patience |0100");
        fault("patience |101");
        fault("patience |199");
        fault("patience |990");
        fault("patience |999");
        fault("patience |000");
        // these wrap around to 5: in 8, 32 and 64 bits
        fault("patience |261");
        fault("patience |4294967301");
        fault("patience |18446744073709551621");
        fault("patience |4294967301; length 0");
        fault("child 0 0 0 |65536");
        fault("line work 0 |256");
    }

    private static void bytesThatBeginNoToken() {
        for (int b = 0; b < 256; b++) {
            boolean isToken = b >= 'a' && b <= 'z' || b >= '0' && b <= '9' || b == ';' || b == ' ';
            if (isToken) {
                continue;
            }
            FortyReports x = new FortyReports();
            x.feed(b, 1);
            Check.due("32 byte " + b + " alone", x.text(), -1);
            Scenes.tape(x, "line work 0 9");
            x.feed(b, 1);
            Check.due("32 byte " + b + " behind a number", x.text(), -1 - 13);
            Scenes.tape(x, "line");
            x.feed(b, 1);
            Scenes.tape(x, "work 0 9");
            Check.due("32 byte " + b + " behind a name", x.text(), -1 - 4);
            Scenes.tape(x, "line work 0 9 ");
            x.feed(b, 1);
            Scenes.tape(x, ";!");
            Check.due("32 byte " + b + " behind a blank", x.text(), -1 - 14);
            Check.due("32 nothing came", x.count(1), 0);
        }
        for (char b = 'a'; b <= 'z'; b++) {
            fault("line work 0 9 |" + b);
            fault("|" + b + "line work 0 9");
            fault("|line" + b + " work 0 9");
        }
        for (char b = '0'; b <= '9'; b++) {
            fault("line work 0 9 |" + b);
            fault("|" + b + " line work 0 9");
        }
    }

    private static void blanksMayStandBetween() {
        FortyReports x = taken("   line   voice   2   7   words   40   ;   length   9   ", 2);
        Check.due("32 voice", x.lineOf(0, 1), 3);
        Check.due("32 words", x.lineOf(0, 4), 40);
        Check.due("32 length", x.now(2), 9);
        fault("|li ne work 0 9");
        fault("line work 0 9 words 4 |0");
        fault("line|\twork 0 9");
        fault("line work 0 9|\n");
    }

    private static void namesAsTheyAre() {
        for (int k = 0; k < 7; k++) {
            for (int t = 0; t < 4; t++) {
                FortyReports x = taken(KINDS[k] + " " + TRAITS[t] + " 3 4", 1);
                Check.due("32 kind", x.lineOf(0, 0), k);
                Check.due("32 trait", x.lineOf(0, 1), t);
            }
            String cut = KINDS[k].substring(0, KINDS[k].length() - 1);
            fault("|" + cut + " work 0 9");
            fault("|" + KINDS[k] + "s work 0 9");
            fault("|" + KINDS[k].substring(1) + " work 0 9");
            fault("line |" + KINDS[k] + " 0 9");
        }
        for (int t = 0; t < 4; t++) {
            fault("line |" + TRAITS[t].substring(0, TRAITS[t].length() - 1) + " 0 9");
            fault("line |" + TRAITS[t] + "s 0 9");
            fault("line |" + TRAITS[t].substring(1) + " 0 9");
            fault("|" + TRAITS[t] + " 0 9");
        }
        String[] others = {"words", "girl", "of", "tired", "wear", "seenn", "see", "w", "lin"};
        for (String other : others) {
            fault("|" + other + " work 0 9");
            fault("line |" + other + " 0 9");
        }
        String[] heads = {"child", "patience", "length"};
        for (String head : heads) {
            fault("|" + head.substring(0, head.length() - 1) + " 5 5 5 5");
            fault("|" + head + "s 5 5 5 5");
            fault("line |" + head + " 5 5");
        }
        fault("line work 0 9 |word 8");
        fault("line work 0 9 |wordss 8");
        fault("child 0 0 0 0 |girls");
        fault("child 0 0 0 0 |gir");
        fault("child 0 0 0 0 |see 3");
        fault("child 0 0 0 0; child 0 0 0 0 |off 0");
        fault("child 0 0 0 0; child 0 0 0 0 |o 0");
        fault("|Child 0 0 0 0");
        fault("line |Work 0 9");
    }

    private static void numbersOfALine() {
        for (int low = 0; low <= 10; low++) {
            for (int high = 0; high <= 10; high++) {
                String head = "coded hand ";
                if (low == 10) {
                    fault(head + "|" + low + " " + high);
                } else if (high == 10 || high < low) {
                    fault(head + low + " |" + high);
                } else {
                    FortyReports x = taken(head + low + " " + high, 1);
                    Check.due("32 low", x.lineOf(0, 2), low);
                    Check.due("32 high", x.lineOf(0, 3), high);
                }
            }
        }
        Check.due("32 words 1", taken("line work 0 9 words 1", 1).lineOf(0, 4), 1);
        Check.due("32 words 40", taken("line work 0 9 words 40", 1).lineOf(0, 4), 40);
        Check.due("32 words left out", taken("line work 0 9", 1).lineOf(0, 4), 8);
        fault("line work 0 9 words |0");
        fault("line work 0 9 words |00");
        fault("line work 0 9 words |41");
        fault("line work 0 9 words |99");
        fault("line work 0 9 words |100");
    }

    private static void numbersOfAChild() {
        for (int trait = 0; trait < 4; trait++) {
            StringBuilder least = new StringBuilder("child");
            StringBuilder most = new StringBuilder("child");
            StringBuilder beyond = new StringBuilder("child");
            for (int i = 0; i < 4; i++) {
                least.append(i == trait ? " 0" : " 5");
                most.append(i == trait ? " 9" : " 5");
                beyond.append(i == trait ? " |10" : " 5");
            }
            Check.due("32 0 stands", taken(least.toString(), 1).of(0, trait), 0);
            Check.due("32 9 stands", taken(most.toString(), 1).of(0, trait), 9);
            fault(beyond.toString());
        }
        Check.due("32 seen 0", taken("child 1 1 1 1 seen 0", 1).of(0, 4), 0);
        Check.due("32 seen 9", taken("child 1 1 1 1 seen 9", 1).of(0, 4), 9);
        Check.due("32 seen left out", taken("child 1 1 1 1", 1).of(0, 4), 5);
        Check.due("32 a girl", taken("child 1 1 1 1 girl", 1).of(0, 5), 1);
        Check.due("32 not told to be one", taken("child 1 1 1 1", 1).of(0, 5), 0);
        Check.due("32 no brother told", taken("child 1 1 1 1", 1).of(0, 6), -1);
        fault("child 1 1 1 1 seen |10");
        fault("child 1 1 1 1 seen |99");
        fault("child 1 1 1 1 seen |girl");
    }

    private static void numbersOfTheWriter() {
        Check.due("32 patience 1", taken("patience 1", 1).now(1), 1);
        Check.due("32 patience 99", taken("patience 99", 1).now(1), 99);
        Check.due("32 length 1", taken("length 1", 1).now(2), 1);
        Check.due("32 length 99", taken("length 99", 1).now(2), 99);
        fault("patience |0");
        fault("patience |100");
        fault("length |0");
        fault("length |100");
        Check.due("32 the latest stands", taken("length 3;length 99;length 1", 3).now(2), 1);
        fault("length 3;patience 3;length |0");
        fault("patience 5 |length 5");
        fault("patience 5 |5");
    }

    private static void whatMayBeLeftOut() {
        fault("child 1 1 1 |seen 5");
        fault("child 1 1 1|");
        fault("child 1 1 1 1 |1");
        fault("line |0 9");
        fault("line work |words 8");
        fault("line work 0 |words 8");
        fault("line work 0 9 |8");
        fault("line work 0 9 words|");
        fault("line work 0 9 words |words 8");
        fault("line work 0 9 words 8 |words 8");
        fault("line work 0 9 |seen 5");
        fault("line work 0 9 |girl");
        fault("child 1 1 1 1 |words 8");
        fault("child |work 1 1 1 1");
    }

    private static void whatComesInOrder() {
        String ahead = "child 0 0 0 0;";
        FortyReports x = taken(ahead + "child 1 2 3 4 seen 6 girl of 0", 2);
        int[] due = {1, 2, 3, 4, 6, 1, 0};
        for (int what = 0; what < due.length; what++) {
            Check.due("32 all of it, " + what, x.of(1, what), due[what]);
        }
        Check.due("32 seen and of", taken(ahead + "child 1 2 3 4 seen 6 of 0", 2).of(1, 6), 0);
        Check.due("32 girl and of", taken(ahead + "child 1 2 3 4 girl of 0", 2).of(1, 6), 0);
        Check.due("32 of alone", taken(ahead + "child 1 2 3 4 of 0", 2).of(1, 6), 0);
        Check.due("32 seen and girl", taken(ahead + "child 1 2 3 4 seen 6 girl", 2).of(1, 5), 1);
        fault(ahead + "child 1 2 3 4 girl |seen 6");
        fault(ahead + "child 1 2 3 4 of 0 |seen 6");
        fault(ahead + "child 1 2 3 4 of 0 |girl");
        fault(ahead + "child 1 2 3 4 of 0 |of 0");
        fault(ahead + "child 1 2 3 4 of 0 |0");
        fault(ahead + "child 1 2 3 4 seen 6 |seen 6");
        fault(ahead + "child 1 2 3 4 girl |girl");
        fault(ahead + "child 1 2 3 4 girl |1");
    }

    private static void tooEarly() {
        fault("|");
        fault("  |");
        fault("line|");
        fault("line  |");
        fault("line work|");
        fault("line work 0|");
        fault("line work 0 |");
        fault("line work 0 9 words|");
        fault("line work 0 9 words   |");
        fault("line work 0 9;|");
        fault("line work 0 9;  |");
        fault("child|");
        fault("child 1|");
        fault("child 1 1|");
        fault("child 1 1 1 |");
        fault("child 1 1 1 1 seen|");
        fault("child 1 1 1 1;child 1 1 1 1 of|");
        fault("patience|");
        fault("length |");
        Twins.asks("32 an empty tape", Scenes::none, x -> x.text(), -1);
        FortyReports x = blanks(120);
        Check.due("32 120 blanks", x.text(), -1 - 120);
    }

    private static void itemsAndSigns() {
        taken("length 5", 1);
        taken("length 5;length 6", 2);
        fault("|;");
        fault("|;length 5");
        fault("length 5;|;length 5");
        fault("length 5; |;");
        fault("length |;5");
        fault("length 5 |length 6");
        fault("line |;work 0 9");
        fault("line work |;0 9");
        fault("line work 0 |;9");
        fault("line work 0 9 words |;8");
        fault("child 1 1 1 |;");
        fault("child 1 1 1 1 seen |;");
        fault("|5");
        fault("length 5;|5");
    }

    private static Twins.Scene withLines(int n) {
        return x -> {
            for (int i = 0; i < n; i++) {
                x.line(Check.LINE, 0, 0, 0, 1);
            }
        };
    }

    private static void twelveLinesAtMost() {
        for (String kind : KINDS) {
            fault(withLines(12), "|" + kind + " work 0 0");
            fault(withLines(12), "patience 5; |" + kind);
            fault(withLines(11), kind + " work 0 0; |" + kind + " work 0 0");
            fault(withLines(10), kind + " work 0 0;line work 0 0 words 9;|" + kind);
        }
        FortyReports x = Twins.built(withLines(11));
        Scenes.tape(x, "left voice 1 2; patience 5");
        Check.due("32 a 12th", x.text(), 2);
        Check.due("32 it came", x.lineOf(11, 0), Check.LEFT);
        Scenes.tape(x, "child 1 1 1 1;length 5");
        Check.due("32 a child comes yet", x.text(), 2);
        fault(withLines(12), "child 1 1 1 1 seen 5;|seen work 0 0");
        fault(withLines(12), "|line");
    }

    private static Twins.Scene withChildren(int n) {
        return x -> {
            for (int i = 0; i < n; i++) {
                x.child(1, 1, 1, 1);
            }
        };
    }

    private static void twelveChildrenAtMost() {
        fault(withChildren(12), "|child 0 0 0 0");
        fault(withChildren(12), "|child");
        fault(withChildren(12), "patience 5; |child 0 0 0 99");
        fault(withChildren(11), "child 0 0 0 0; |child 0 0 0 0");
        fault(withChildren(10), "child 0 0 0 0;child 0 0 0 0 of 10;|child 0");
        FortyReports x = Twins.built(withChildren(11));
        Scenes.tape(x, "child 1 2 3 4 of 10; line work 0 0");
        Check.due("32 a 12th", x.text(), 2);
        Check.due("32 her brother", x.of(11, 6), 10);
        Check.due("32 a new report is none", x.of(11, 7), 0);
    }

    private static void aBrotherWhoIsThereByThen() {
        fault("child 1 1 1 1 of |12");
        fault(Scenes::none, "child 1 1 1 1 of |0");
        fault(Scenes::none, "child 1 1 1 1; child 1 1 1 1 of |1");
        fault(Scenes::none, "child 1 1 1 1 of |1; child 1 1 1 1");
        fault(Scenes::three, "child 1 1 1 1 of |3");
        fault(Scenes::three, "child 1 1 1 1 of |girl");
        fault(withChildren(11), "child 1 1 1 1 of |11");
        FortyReports x = Twins.built(Scenes::three);
        x.wipe();
        Scenes.tape(x, "child 1 1 1 1 of 2;child 1 1 1 1 of 3;child 1 1 1 1 of 0");
        Check.due("32 of those there were, and of those that came", x.text(), 3);
        Check.due("32 the last there was", x.of(3, 6), 2);
        Check.due("32 one of the text", x.of(4, 6), 3);
        Check.due("32 the first", x.of(5, 6), 0);
    }

    private static void seenAtTheBeginning() {
        FortyReports x = taken("child 1 1 1 1; seen work 0 9", 2);
        Check.due("32 a line", x.lineOf(0, 0), Check.SEEN);
        Check.due("32 not of the child", x.of(0, 4), 5);
        Check.due("32 seen, and seen", taken("child 1 1 1 1 seen 9; seen work 0 9", 2).of(0, 4), 9);
        fault("seen |5");
        fault("child 1 1 1 1; seen |5");
        fault("child 1 1 1 1 seen |work 0 9");
        fault("line work 0 9 |seen work 0 9");
    }

    private static void aTextOf120() {
        Check.due("32 as long as can be", Twins.built(Scenes::full).text(), 2);
        // each item a new length: ten bytes, twelve times
        FortyReports x = new FortyReports();
        Scenes.tape(x, "length 11;".repeat(11) + "length 99 ");
        Check.due("32 a full tape", x.count(4), 120);
        Check.due("32 twelve items", x.text(), 12);
        Check.due("32 the last", x.now(2), 99);
        Scenes.tape(x, "length 11;".repeat(12));
        Check.due("32 a full tape that ends too early", x.text(), -1 - 120);
        Scenes.tape(x, "length7;".repeat(14) + "length8!");
        Check.due("32 a fault at the last byte", x.text(), -1 - 119);
        Check.due("32 nothing came", x.now(2), 99);
    }
}
