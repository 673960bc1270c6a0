/** The edges that promises 12 to 16 and section 4 (THE GATE) name: a method for each sentence, which stands above it. */
public final class EdgesOfGateTest {
    private static final Check CHECK = new Check();

    public static void main(String[] args) {
        listed();
        listedOnceMore();
        faultsOfList();
        openAndNoName();
        twelveHosts();
        faultsBeforeFull();
        openNames();
        listedByWhatItIs();
        resolved();
        wrongKinds();
        faultsOfResolve();
        noName();
        sixteenAddresses();
        wordsOfAnAddress();
        bitsOfRanges();
        kindsOfRanges();
        twelveRanges();
        wordsOfARange();
        clearOfNothing();
        clearOfAll();
        clearLeavesTheRest();
        passes();
        firstThatIsNotSo();
        someAddresses();
        fourInSix();
        noRecordThere();
        CHECK.finish();
    }

    private static int passOf(UrlGate gate, String text) {
        CHECK.due("read of " + text, Check.read(gate, 0, UrlGate.NONE, text), 0);
        return gate.pass(0);
    }

    /** A gate with a name open, some of its addresses in the one range of FOUR (10.0.0.0/8). */
    private static UrlGate gate() {
        UrlGate gate = new UrlGate();
        Check.list(gate, "a.b", true);
        Check.resolveFour(gate, "a.b", 0x0a000001);
        gate.range(4, 0x0a000000, 0, 0, 0, 8);
        return gate;
    }

    /** "THE TEXT, read as a HOST's text, is listed .., and empty then: how many are." */
    private static void listed() {
        UrlGate gate = new UrlGate();
        String[] hosts = {"a", "1.2.3.4", "[::1]", "b.c."};
        for (int i = 0; i < hosts.length; i++) {
            CHECK.due("list of " + hosts[i], Check.list(gate, hosts[i], false), i + 1);
            CHECK.due("THE TEXT is empty", gate.erase(), 0);
        }
        CHECK.due("open", Check.list(gate, "d", true), 5);
        CHECK.due("THE TEXT is empty", gate.erase(), 0);
        CHECK.due("300 bytes", Check.list(gate, "e".repeat(300), false), 6);
        CHECK.due("300 bytes, open", Check.list(gate, "e".repeat(300), true), 7);
        CHECK.due("all of them", gate.clear(), 7);
    }

    /** "(also once more)" */
    private static void listedOnceMore() {
        UrlGate gate = new UrlGate();
        for (int i = 1; i <= 12; i++) {
            CHECK.due("the same, time " + i, Check.list(gate, "a", i % 3 == 0), i);
        }
        CHECK.due("and once more", Check.list(gate, "a", false), UrlGate.FULL);
    }

    private static void listFails(UrlGate gate, String text, boolean open, int fault) {
        CHECK.due("list of '" + text + "'", Check.list(gate, text, open), fault);
        CHECK.due("THE TEXT is empty", gate.erase(), 0);
    }

    /** "A fault of it (listed is nothing; THE TEXT is empty)." */
    private static void faultsOfList() {
        UrlGate gate = new UrlGate();
        for (boolean open : new boolean[] {false, true}) {
            listFails(gate, "", open, UrlGate.WRONG);
            listFails(gate, "a%", open, UrlGate.WRONG);
            listFails(gate, " a", open, UrlGate.WRONG);
            listFails(gate, "a:1", open, UrlGate.WRONG);
            listFails(gate, "256.1", open, UrlGate.FOUR);
            listFails(gate, "a.1", open, UrlGate.FOUR);
            listFails(gate, "[1]", open, UrlGate.SIX);
            listFails(gate, "[", open, UrlGate.SIX);
        }
        CHECK.due("listed is nothing", gate.clear(), 0);
    }

    /** "BAD, behind that: OPEN, and no NAME" */
    private static void openAndNoName() {
        UrlGate gate = new UrlGate();
        for (String text : new String[] {"1.2.3.4", "0", "0x", "[::1]", "[::]", "[::ffff:1.2.3.4]"}) {
            listFails(gate, text, true, UrlGate.BAD);
            CHECK.due("not open", Check.list(gate, text, false), 1);
            CHECK.due("just that", gate.clear(), 1);
        }
        CHECK.due("a NAME like FOUR", Check.list(gate, "1.2.3.4a", true), 1);
    }

    private static UrlGate withTwelve() {
        UrlGate gate = new UrlGate();
        for (int i = 1; i <= 12; i++) {
            CHECK.due("the " + i + "th HOST", Check.list(gate, "h" + i + "x", false), i);
        }
        return gate;
    }

    /** "FULL: there are 12." */
    private static void twelveHosts() {
        UrlGate gate = withTwelve();
        listFails(gate, "new", false, UrlGate.FULL);
        listFails(gate, "new", true, UrlGate.FULL);
        listFails(gate, "1.2.3.4", false, UrlGate.FULL);
        CHECK.due("the first is listed", passOf(gate, "http://h1x"), 4);
        CHECK.due("the 12th is listed", passOf(gate, "http://h12x"), 4);
        CHECK.due("one more is not", passOf(gate, "http://new"), 3);
        CHECK.due("there are 12", gate.clear(), 12);
        CHECK.due("the first behind clear", Check.list(gate, "new", false), 1);
        CHECK.due("it is listed", passOf(gate, "http://new"), 4);
        CHECK.due("an old one is not", passOf(gate, "http://h2x"), 3);
    }

    private static void faultsBeforeFull() {
        UrlGate gate = withTwelve();
        listFails(gate, "", false, UrlGate.WRONG);
        listFails(gate, "a b", true, UrlGate.WRONG);
        listFails(gate, "1.2.3.256", false, UrlGate.FOUR);
        listFails(gate, "[::g]", true, UrlGate.SIX);
        listFails(gate, "1.2.3.4", true, UrlGate.BAD);
        listFails(gate, "[::1]", true, UrlGate.BAD);
    }

    /** "each for itself, or for all NAMES that end with a point and it, too (OPEN)" - 4: listed, 3: not. */
    private static void openNames() {
        String[] hosts = {"a.b", "x.a.b", "y.x.a.b", ".a.b", "..a.b", "xa.b", "b", ".b", "a.b.", "x.a.b.", "a.b.c", "-.a.b", "a", "a.bb"};
        boolean[] below = {true, true, true, true, true, false, false, false, false, false, false, true, false, false};
        for (int i = 0; i < hosts.length; i++) {
            UrlGate gate = new UrlGate();
            Check.list(gate, "a.b", true);
            CHECK.due(hosts[i] + " below a.b", passOf(gate, "http://" + hosts[i]), below[i] ? 4 : 3);
            gate.clear();
            Check.list(gate, "a.b", false);
            CHECK.due(hosts[i] + " as a.b", passOf(gate, "http://" + hosts[i]), i == 0 ? 4 : 3);
        }
        UrlGate gate = new UrlGate();
        Check.list(gate, "b", true);
        CHECK.due("FOUR is no NAME", passOf(gate, "http://1.2.3.4"), 3);
        Check.list(gate, ".", true);
        CHECK.due("a point and a point", passOf(gate, "http://a.."), 4);
        CHECK.due("a point alone", passOf(gate, "http://."), 4);
        CHECK.due("one point at the end", passOf(gate, "http://a."), 3);
    }

    /** "Whether a HOST is listed goes by what it is: one of SIX is none of FOUR." - 5: listed, 3: not. */
    private static void listedByWhatItIs() {
        UrlGate gate = new UrlGate();
        Check.list(gate, "1.2.3.4", false);
        CHECK.due("FOUR", passOf(gate, "http://1.2.3.4"), 5);
        CHECK.due("FOUR in another way", passOf(gate, "http://0x1020304."), 5);
        CHECK.due("FOUR beside it", passOf(gate, "http://1.2.3.5"), 3);
        CHECK.due("SIX with FOUR in it", passOf(gate, "http://[::ffff:1.2.3.4]"), 3);
        CHECK.due("SIX of its bits", passOf(gate, "http://[::1.2.3.4]"), 3);
        CHECK.due("SIX that begins with its bits", passOf(gate, "http://[102:304::]"), 3);
        CHECK.due("a NAME that begins so", passOf(gate, "http://1.2.3.4a"), 3);
        gate.clear();
        Check.list(gate, "[::ffff:1.2.3.4]", false);
        CHECK.due("FOUR", passOf(gate, "http://1.2.3.4"), 3);
        CHECK.due("SIX", passOf(gate, "http://[::FFFF:102:304]"), 5);
        CHECK.due("SIX beside it", passOf(gate, "http://[::ffff:102:305]"), 3);
    }

    /** "The RESOLVER gives an ADDRESS more for THE TEXT, .. which is empty then: how many there are." */
    private static void resolved() {
        UrlGate gate = new UrlGate();
        CHECK.due("kind 4", Check.resolveFour(gate, "a", 1), 1);
        CHECK.due("THE TEXT is empty", gate.erase(), 0);
        CHECK.due("kind 6", Check.resolveSix(gate, "a", 1, 2, 3, 4), 2);
        CHECK.due("THE TEXT is empty", gate.erase(), 0);
        CHECK.due("for another", Check.resolveFour(gate, "b.", 1), 3);
        CHECK.due("once more", Check.resolveFour(gate, "a", 1), 4);
        CHECK.due("300 bytes", Check.resolveFour(gate, "e".repeat(300), 1), 5);
        CHECK.due("all of them", gate.clear(), 5);
    }

    /** "BAD (THE TEXT stays): kind" - before all others. */
    private static void wrongKinds() {
        for (String text : new String[] {"", "a", "a b", "1.2.3.4", "[1]"}) {
            for (int kind : new int[] {0, 3, 5, 7, -4, -6, 4 + 256, Integer.MAX_VALUE, Integer.MIN_VALUE}) {
                UrlGate gate = new UrlGate();
                Check.type(gate, text);
                CHECK.due("kind " + kind, gate.resolve(kind, 1, 2, 3, 4), UrlGate.BAD);
                CHECK.due("THE TEXT stays", Check.text(gate), text);
                CHECK.due("nothing is given", gate.clear(), 0);
            }
        }
        UrlGate gate = new UrlGate();
        Check.type(gate, "a");
        gate.resolve(5, 1, 0, 0, 0);
        CHECK.due("it can be read then", gate.resolve(4, 1, 0, 0, 0), 1);
    }

    private static void resolveFails(UrlGate gate, String text, int fault) {
        CHECK.due("resolve 4 of '" + text + "'", Check.resolveFour(gate, text, 1), fault);
        CHECK.due("THE TEXT is empty", gate.erase(), 0);
        CHECK.due("resolve 6 of '" + text + "'", Check.resolveSix(gate, text, 1, 2, 3, 4), fault);
        CHECK.due("THE TEXT is empty", gate.erase(), 0);
    }

    /** "a fault of it" */
    private static void faultsOfResolve() {
        UrlGate gate = new UrlGate();
        resolveFails(gate, "", UrlGate.WRONG);
        resolveFails(gate, "a%", UrlGate.WRONG);
        resolveFails(gate, "a ", UrlGate.WRONG);
        resolveFails(gate, "xn--a", UrlGate.WRONG);
        resolveFails(gate, "256.1", UrlGate.FOUR);
        resolveFails(gate, "[1]", UrlGate.SIX);
        CHECK.due("nothing is given", gate.clear(), 0);
    }

    /** "BAD: no NAME" */
    private static void noName() {
        UrlGate gate = new UrlGate();
        resolveFails(gate, "1.2.3.4", UrlGate.BAD);
        resolveFails(gate, "0x", UrlGate.BAD);
        resolveFails(gate, "[::1]", UrlGate.BAD);
        resolveFails(gate, "[::ffff:1.2.3.4]", UrlGate.BAD);
        CHECK.due("nothing is given", gate.clear(), 0);
        CHECK.due("a NAME like FOUR", Check.resolveFour(gate, "1.2.3.4a", 1), 1);
    }

    /** "FULL: there are 16." - in all, whatever they are for. */
    private static void sixteenAddresses() {
        UrlGate gate = new UrlGate();
        for (int i = 1; i <= 16; i++) {
            int answer = i % 2 == 0 ? Check.resolveFour(gate, "h" + i + "x", i) : Check.resolveSix(gate, "h" + i + "x", 0, 0, 0, i);
            CHECK.due("the " + i + "th ADDRESS", answer, i);
        }
        resolveFails(gate, "new", UrlGate.FULL);
        resolveFails(gate, "h1x", UrlGate.FULL);
        resolveFails(gate, "", UrlGate.WRONG);
        resolveFails(gate, "1.2.3.256", UrlGate.FOUR);
        resolveFails(gate, "[::g]", UrlGate.SIX);
        resolveFails(gate, "1.2.3.4", UrlGate.BAD);
        Check.type(gate, "new");
        CHECK.due("kind", gate.resolve(5, 0, 0, 0, 0), UrlGate.BAD);
        CHECK.due("THE TEXT stays", gate.erase(), 3);
        for (String host : new String[] {"h1x", "h16x", "new"}) {
            Check.list(gate, host, false);
        }
        CHECK.due("the first is there", passOf(gate, "http://h1x"), 5);
        CHECK.due("the 16th is there", passOf(gate, "http://h16x"), 5);
        CHECK.due("one more is not", passOf(gate, "http://new"), 4);
        CHECK.due("there are 16", gate.clear(), 16 + 3);
        CHECK.due("the first behind clear", Check.resolveFour(gate, "new", 1), 1);
    }

    /** "Kind 4: a is the 32 bits; 6: a .. d, the highest first." */
    private static void wordsOfAnAddress() {
        UrlGate gate = new UrlGate();
        Check.list(gate, "a", false);
        Check.type(gate, "a");
        gate.resolve(4, 0x80000001, 7, 8, 9);
        gate.range(4, 0x80000001, 0, 0, 0, 32);
        CHECK.due("b .. d do not count for kind 4", passOf(gate, "http://a"), 0);
        gate.clear();
        Check.list(gate, "a", false);
        Check.resolveSix(gate, "a", 0x80000001, 0x80000002, 0x80000003, 0x80000004);
        gate.range(6, 0x80000001, 0x80000002, 0x80000003, 0x80000004, 128);
        CHECK.due("all four of kind 6", passOf(gate, "http://a"), 0);
        Check.resolveSix(gate, "a", 0x80000004, 0x80000003, 0x80000002, 0x80000001);
        CHECK.due("in their order", passOf(gate, "http://a"), 5);
    }

    /** "so many bits (0 .. 32, 0 .. 128)"; "BAD" */
    private static void bitsOfRanges() {
        int[] bits = {-1, 0, 1, 31, 32, 33, 64, 127, 128, 129, Integer.MAX_VALUE, Integer.MIN_VALUE};
        for (int n : bits) {
            UrlGate gate = new UrlGate();
            CHECK.due("kind 4, bits " + n, gate.range(4, 1, 2, 3, 4, n), n >= 0 && n <= 32 ? 1 : UrlGate.BAD);
            CHECK.due("how many", gate.clear(), n >= 0 && n <= 32 ? 1 : 0);
            CHECK.due("kind 6, bits " + n, gate.range(6, 1, 2, 3, 4, n), n >= 0 && n <= 128 ? 1 : UrlGate.BAD);
            CHECK.due("how many", gate.clear(), n >= 0 && n <= 128 ? 1 : 0);
        }
    }

    /** "kind 4 or 6"; "BAD" */
    private static void kindsOfRanges() {
        for (int kind : new int[] {0, 3, 5, 7, -4, -6, Integer.MAX_VALUE, Integer.MIN_VALUE}) {
            UrlGate gate = new UrlGate();
            CHECK.due("kind " + kind, gate.range(kind, 0, 0, 0, 0, 0), UrlGate.BAD);
            CHECK.due("kind " + kind + ", bits 32", gate.range(kind, 0, 0, 0, 0, 32), UrlGate.BAD);
            CHECK.due("nothing is listed", gate.clear(), 0);
        }
    }

    /** "FULL: there are 12." */
    private static void twelveRanges() {
        UrlGate gate = new UrlGate();
        Check.list(gate, "a", false);
        Check.resolveFour(gate, "a", 12);
        for (int i = 1; i <= 12; i++) {
            CHECK.due("before the " + i + "th RANGE", passOf(gate, "http://a"), 5);
            CHECK.due("the " + i + "th RANGE", gate.range(i % 2 == 0 ? 4 : 6, i, 0, 0, 0, 32), i);
        }
        CHECK.due("the 12th counts", passOf(gate, "http://a"), 0);
        Check.resolveFour(gate, "a", 13);
        CHECK.due("one more", gate.range(4, 13, 0, 0, 0, 32), UrlGate.FULL);
        CHECK.due("one more of SIX", gate.range(6, 0, 0, 0, 0, 0), UrlGate.FULL);
        CHECK.due("the same as one", gate.range(4, 12, 0, 0, 0, 32), UrlGate.FULL);
        CHECK.due("it does not count", passOf(gate, "http://a"), 5);
        CHECK.due("BAD before FULL", gate.range(4, 0, 0, 0, 0, 33), UrlGate.BAD);
        CHECK.due("BAD before FULL", gate.range(5, 0, 0, 0, 0, 0), UrlGate.BAD);
        CHECK.due("there are 12", gate.clear(), 12 + 1 + 2);
    }

    /** "so many bits .. as in a .. d" - no bit behind them counts, and each before does. */
    private static void wordsOfARange() {
        for (int bits : new int[] {0, 1, 31, 32, 33, 63, 64, 65, 95, 96, 97, 127, 128}) {
            for (int other : new int[] {bits - 1, bits}) {
                if (other < 0 || other > 127) {
                    continue;
                }
                int[] a = {0x20010db8, 0x80000001, 0x7fffffff, 0xfffffffe};
                UrlGate gate = new UrlGate();
                Check.list(gate, "a", false);
                Check.resolveSix(gate, "a", a[0], a[1], a[2], a[3]);
                a[other / 32] ^= 1 << (31 - other % 32);
                gate.range(6, a[0], a[1], a[2], a[3], bits);
                CHECK.due("bit " + other + " with " + bits, passOf(gate, "http://a"), other < bits ? 5 : 0);
            }
        }
    }

    /** "how many HOSTS, ADDRESSES, RANGES there were, together" - none. */
    private static void clearOfNothing() {
        UrlGate gate = new UrlGate();
        CHECK.due("clear of nothing", gate.clear(), 0);
        CHECK.due("and once more", gate.clear(), 0);
    }

    /** The same of all that there can be. */
    private static void clearOfAll() {
        UrlGate gate = new UrlGate();
        for (int i = 0; i < 17; i++) {
            Check.list(gate, "a", true);
            Check.resolveFour(gate, "a", i);
            gate.range(4, 0, 0, 0, 0, 0);
        }
        CHECK.due("it passes", passOf(gate, "http://a"), 0);
        CHECK.due("clear of all", gate.clear(), 12 + 16 + 12);
        CHECK.due("nothing is listed", gate.pass(0), 3);
        CHECK.due("clear of nothing", gate.clear(), 0);
        Check.list(gate, "a", false);
        CHECK.due("the RESOLVER gives nothing", gate.pass(0), 4);
        Check.resolveFour(gate, "a", 1);
        CHECK.due("no RANGES", gate.pass(0), 5);
        CHECK.due("the first RANGE", gate.range(4, 0, 0, 0, 0, 0), 1);
        CHECK.due("it passes again", gate.pass(0), 0);
        CHECK.due("one of each", gate.clear(), 3);
    }

    private static void clearLeavesTheRest() {
        UrlGate gate = gate();
        Check.read(gate, 3, UrlGate.NONE, "http://a");
        Check.type(gate, "kept");
        gate.clear();
        CHECK.due("THE TEXT stays", Check.text(gate), "kept");
        CHECK.due("the RECORD stays", gate.write(3), 9);
    }

    /** "0: the place's RECORD PASSES" */
    private static void passes() {
        for (int place = 0; place < 4; place++) {
            UrlGate gate = gate();
            for (String text : new String[] {"http://a.b", "https://A.B:1/c?d#e", "http://@a.b", "http://:@a.b"}) {
                Check.read(gate, place, UrlGate.NONE, text);
                Check.type(gate, "kept");
                CHECK.due("pass of " + text, gate.pass(place), 0);
                CHECK.due("once more", gate.pass(place), 0);
                CHECK.due("THE TEXT stays", gate.erase(), 4);
            }
            CHECK.due("what is listed stays", gate.clear(), 3);
        }
    }

    /** "else the first of these that is not so: 1 .. 5" - each with all that comes behind it not so, and so. */
    private static void firstThatIsNotSo() {
        UrlGate empty = new UrlGate();
        UrlGate gate = gate();
        Check.resolveFour(gate, "out.a.b", 0x0b000001);
        for (String scheme : new String[] {"ws", "wss", "ftp"}) {
            CHECK.due("1, and all others", passOf(empty, scheme + "://u:p@z"), 1);
            CHECK.due("1, and no other", passOf(gate, scheme + "://a.b"), 1);
        }
        for (String user : new String[] {"u@", ":p@", "u:p@"}) {
            CHECK.due("2, and all others", passOf(empty, "http://" + user + "z"), 2);
            CHECK.due("2, and no other", passOf(gate, "https://" + user + "a.b"), 2);
        }
        CHECK.due("3, and all others", passOf(empty, "http://z"), 3);
        CHECK.due("3, and all others", passOf(empty, "http://1.2.3.4"), 3);
        Check.resolveFour(gate, "z", 0x0a000001);
        CHECK.due("3, and no other", passOf(gate, "http://z"), 3);
        CHECK.due("3, and no other, FOUR", passOf(gate, "http://10.0.0.1"), 3);
        CHECK.due("4", passOf(gate, "http://no.a.b"), 4);
        CHECK.due("5", passOf(gate, "http://out.a.b"), 5);
        CHECK.due("0", passOf(gate, "http://a.b"), 0);
        Check.list(empty, "z", false);
        CHECK.due("4 without RANGES", passOf(empty, "http://z"), 4);
        Check.resolveFour(empty, "z", 1);
        CHECK.due("5 without RANGES", passOf(empty, "http://z"), 5);
        Check.list(empty, "1.2.3.4", false);
        CHECK.due("no 4 for an address", passOf(empty, "http://1.2.3.4"), 5);
        Check.list(empty, "[::1]", false);
        CHECK.due("no 4 for an address", passOf(empty, "http://[::1]"), 5);
    }

    /** "a NAME, for which the RESOLVER gives some ADDRESSES, each of which is in some RANGE" */
    private static void someAddresses() {
        for (int outside = 0; outside < 5; outside++) {
            UrlGate gate = gate();
            for (int i = 0; i < 4; i++) {
                Check.resolveFour(gate, "x.a.b", i == outside ? 0x0b000000 : 0x0a000000 + i);
                Check.resolveFour(gate, "y.a.b", 0x0c000000);
            }
            CHECK.due("the " + outside + "th is outside", passOf(gate, "http://x.a.b"), outside < 4 ? 5 : 0);
            CHECK.due("others do not count", passOf(gate, "http://a.b"), 0);
            gate.range(4, 0x0b000000, 0, 0, 0, 32);
            CHECK.due("each in some RANGE", passOf(gate, "http://x.a.b"), 0);
        }
        UrlGate gate = gate();
        CHECK.due("what is above does not count", passOf(gate, "http://x.a.b"), 4);
        Check.list(gate, "a.b.", false);
        CHECK.due("a point more is another NAME", passOf(gate, "http://a.b."), 4);
    }

    private static int passOfSix(int a, int b, int c, int d, int kind, int bits) {
        UrlGate gate = new UrlGate();
        Check.list(gate, "a", false);
        Check.resolveSix(gate, "a", a, b, c, d);
        gate.range(kind, kind == 4 ? d : a, b, c, d, bits);
        return passOf(gate, "http://a");
    }

    /** "An ADDRESS of SIX whose first 80 bits are 0, the next 16 of them 1, counts as one of FOUR .. in RANGES" */
    private static void fourInSix() {
        CHECK.due("as FOUR", passOfSix(0, 0, 0xffff, 0x0a000001, 4, 32), 0);
        CHECK.due("as FOUR, the highest", passOfSix(0, 0, 0xffff, -1, 4, 32), 0);
        CHECK.due("not as SIX", passOfSix(0, 0, 0xffff, 0x0a000001, 6, 128), 5);
        CHECK.due("not as SIX, no bits", passOfSix(0, 0, 0xffff, 0x0a000001, 6, 0), 5);
        int[][] others = {{Integer.MIN_VALUE, 0, 0xffff}, {1, 0, 0xffff}, {0, Integer.MIN_VALUE, 0xffff}, {0, 1, 0xffff}, {0, 0, 0x8000ffff},
            {0, 0, 0x1ffff}, {0, 0, 0x7fff}, {0, 0, 0xfffe}, {0, 0, 0}, {0, 0, -1}};
        for (int[] other : others) {
            CHECK.due("no FOUR", passOfSix(other[0], other[1], other[2], 0x0a000001, 4, 0), 5);
            CHECK.due("SIX", passOfSix(other[0], other[1], other[2], 0x0a000001, 6, 128), 0);
        }
        UrlGate gate = new UrlGate();
        Check.list(gate, "[::ffff:10.0.0.1]", false);
        gate.range(6, 0, 0, 0, 0, 0);
        CHECK.due("that of a HOST, not as SIX", passOf(gate, "http://[::ffff:10.0.0.1]"), 5);
        gate.range(4, 0x0a000000, 0, 0, 0, 31);
        CHECK.due("that of a HOST, as FOUR", passOf(gate, "http://[::ffff:10.0.0.1]"), 0);
    }

    /** "BAD: no RECORD there." */
    private static void noRecordThere() {
        for (int with = 0; with < 4; with++) {
            UrlGate gate = gate();
            Check.read(gate, with, UrlGate.NONE, "http://a.b");
            for (int place : new int[] {-1, 0, 1, 2, 3, 4, Integer.MAX_VALUE, Integer.MIN_VALUE}) {
                CHECK.due("pass(" + place + ")", gate.pass(place), place == with ? 0 : UrlGate.BAD);
            }
        }
    }
}
