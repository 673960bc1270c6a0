/** The edges that promises 7 to 11 name: a method for each sentence, which stands above it. */
public final class EdgesOfPartsTest {
    private static final Check CHECK = new Check();
    private static final int[] FAR = {-1, 4, 5, Integer.MAX_VALUE, Integer.MIN_VALUE};
    private static final String FULL_ONE = "ws://us:pwd@host:81/pa/th?quer#fragme";
    private static final String[] PARTS = {"ws", "us", "pwd", "host", "/pa/th", "quer", "fragme"};

    public static void main(String[] args) {
        eachPart();
        partsWithoutBytes();
        partsThatAreNot();
        wrongWhats();
        firstAndLastBytes();
        noRecordThere();
        longParts();
        portTold();
        kindTold();
        segmentsTold();
        wrongTold();
        numbersOfFour();
        numbersOfSix();
        numbersOfNames();
        wrongNumbers();
        origins();
        originsByPort();
        noRecordsToCompare();
        CHECK.finish();
    }

    private static UrlGate with(int place, String text) {
        UrlGate gate = new UrlGate();
        CHECK.due("read of " + text, Check.read(gate, place, UrlGate.NONE, text), 0);
        return gate;
    }

    /** "what = 0 SCHEME, 1 USER, 2 PASSWORD, 3 HOST as WRITTEN, 4 PATH as WRITTEN, 5 QUERY, 6 FRAGMENT" */
    private static void eachPart() {
        for (int place = 0; place < 4; place++) {
            UrlGate gate = with(place, FULL_ONE);
            for (int what = 0; what < PARTS.length; what++) {
                CHECK.due("size of " + what, gate.size(place, what), PARTS[what].length());
                CHECK.due("part " + what, Check.part(gate, place, what), PARTS[what]);
            }
        }
        UrlGate gate = with(0, "http://0x7f.1");
        CHECK.due("FOUR as WRITTEN", Check.part(gate, 0, 3), "127.0.0.1");
        gate = with(0, "http://[0:0::1]");
        CHECK.due("SIX as WRITTEN", Check.part(gate, 0, 3), "[::1]");
        gate = with(0, "HTTP://A");
        CHECK.due("SCHEME in LOW", Check.part(gate, 0, 0), "http");
        CHECK.due("a NAME in LOW", Check.part(gate, 0, 3), "a");
        CHECK.due("PATH has its /", Check.part(gate, 0, 4), "/");
    }

    /** USER and PASSWORD "both may be without bytes"; a QUERY, a FRAGMENT too. */
    private static void partsWithoutBytes() {
        UrlGate gate = with(1, "http://a?#");
        for (int what : new int[] {1, 2, 5, 6}) {
            CHECK.due("size of " + what + " without bytes", gate.size(1, what), 0);
            for (int i : new int[] {-1, 0, 1}) {
                CHECK.due("byte " + i + " of " + what + " without bytes", gate.part(1, what, i), UrlGate.NONE);
            }
        }
        gate = with(1, "http://:p@a");
        CHECK.due("USER without bytes", gate.size(1, 1), 0);
        CHECK.due("PASSWORD with one", gate.size(1, 2), 1);
        gate = with(1, "http://u:@a");
        CHECK.due("USER with one", gate.size(1, 1), 1);
        CHECK.due("PASSWORD without bytes", gate.size(1, 2), 0);
    }

    /** "(NONE without these two)" */
    private static void partsThatAreNot() {
        String[] texts = {"http://a", "http://a?", "http://a#", "http://a?#"};
        for (int k = 0; k < 4; k++) {
            UrlGate gate = with(2, texts[k]);
            CHECK.due("QUERY of " + texts[k], gate.size(2, 5), (k & 1) == 1 ? 0 : UrlGate.NONE);
            CHECK.due("FRAGMENT of " + texts[k], gate.size(2, 6), (k & 2) == 2 ? 0 : UrlGate.NONE);
            for (int i : new int[] {-1, 0, 1, Integer.MAX_VALUE, Integer.MIN_VALUE}) {
                CHECK.due("byte " + i + " of QUERY", gate.part(2, 5, i), UrlGate.NONE);
                CHECK.due("byte " + i + " of FRAGMENT", gate.part(2, 6, i), UrlGate.NONE);
            }
        }
    }

    /** "BAD: .. another what." */
    private static void wrongWhats() {
        UrlGate gate = with(0, FULL_ONE);
        for (int what : new int[] {-1, 7, 8, -2, 256, Integer.MAX_VALUE, Integer.MIN_VALUE}) {
            CHECK.due("size of what " + what, gate.size(0, what), UrlGate.BAD);
            for (int i : new int[] {-1, 0, 100}) {
                CHECK.due("byte " + i + " of what " + what, gate.part(0, what, i), UrlGate.BAD);
            }
        }
        CHECK.due("what 0", gate.size(0, 0), 2);
        CHECK.due("what 6", gate.size(0, 6), 6);
    }

    /** "Byte i of such a part; NONE: there is none." */
    private static void firstAndLastBytes() {
        UrlGate gate = with(3, FULL_ONE);
        for (int what = 0; what < PARTS.length; what++) {
            int last = PARTS[what].length() - 1;
            CHECK.due("before the first of " + what, gate.part(3, what, -1), UrlGate.NONE);
            CHECK.due("the first of " + what, gate.part(3, what, 0), PARTS[what].charAt(0));
            CHECK.due("the last of " + what, gate.part(3, what, last), PARTS[what].charAt(last));
            CHECK.due("behind the last of " + what, gate.part(3, what, last + 1), UrlGate.NONE);
            CHECK.due("far behind it", gate.part(3, what, Integer.MAX_VALUE), UrlGate.NONE);
            CHECK.due("far before it", gate.part(3, what, Integer.MIN_VALUE), UrlGate.NONE);
        }
    }

    /** "BAD: no RECORD there" - for each call that says so. */
    private static void noRecordThere() {
        for (int with = 0; with < 4; with++) {
            UrlGate gate = with(with, "http://1.2.3.4");
            for (int place : new int[] {-1, 0, 1, 2, 3, 4, Integer.MAX_VALUE, Integer.MIN_VALUE}) {
                if (place != with) {
                    CHECK.due("size at " + place, gate.size(place, 0), UrlGate.BAD);
                    CHECK.due("size of a QUERY at " + place, gate.size(place, 5), UrlGate.BAD);
                    CHECK.due("part at " + place, gate.part(place, 0, 0), UrlGate.BAD);
                    CHECK.due("no byte at " + place, gate.part(place, 5, -1), UrlGate.BAD);
                    CHECK.due("told at " + place, gate.told(place, 0), UrlGate.BAD);
                    CHECK.due("number at " + place, gate.number(place, 0), UrlGate.BAD);
                    CHECK.due("pass at " + place, gate.pass(place), UrlGate.BAD);
                }
            }
            CHECK.due("size at " + with, gate.size(with, 0), 4);
        }
    }

    /** The longest part of all. */
    private static void longParts() {
        UrlGate gate = with(0, "http://a");
        for (int i = 0; i < 3; i++) {
            Check.read(gate, 0, 0, "b".repeat(280) + "/");
        }
        CHECK.due("up to 1000", Check.read(gate, 0, 0, "c".repeat(148)), 0);
        CHECK.due("its PATH", gate.size(0, 4), 992);
        CHECK.due("the last byte", gate.part(0, 4, 991), 'c');
        CHECK.due("behind it", gate.part(0, 4, 992), UrlGate.NONE);
        CHECK.due("SEGMENTS", gate.told(0, 3), 4);
        gate = with(0, "http://a#" + "<".repeat(291));
        CHECK.due("its FRAGMENT", gate.size(0, 6), 873);
        CHECK.due("the last byte", gate.part(0, 6, 872), 'C');
        CHECK.due("behind it", gate.part(0, 6, 873), UrlGate.NONE);
    }

    /** "What = 0 the PORT (NONE: none), 1 the one that counts" */
    private static void portTold() {
        String[] schemes = {"http", "ws", "https", "wss", "ftp"};
        int[] own = {80, 80, 443, 443, 21};
        for (int i = 0; i < schemes.length; i++) {
            for (String port : new String[] {"", ":", ":" + own[i]}) {
                UrlGate gate = with(0, schemes[i] + "://a" + port);
                CHECK.due("no PORT", gate.told(0, 0), UrlGate.NONE);
                CHECK.due("the one that counts", gate.told(0, 1), own[i]);
            }
            for (int port : new int[] {0, 1, own[i] + 1, 65535}) {
                UrlGate gate = with(0, schemes[i] + "://a:" + port);
                CHECK.due("the PORT " + port, gate.told(0, 0), port);
                CHECK.due("it counts", gate.told(0, 1), port);
            }
        }
    }

    /** "2 0 a NAME, 4 FOUR, 6 SIX" */
    private static void kindTold() {
        CHECK.due("a NAME", with(0, "http://a.b").told(0, 2), 0);
        CHECK.due("a NAME like FOUR", with(0, "http://1.2.3.4a").told(0, 2), 0);
        CHECK.due("FOUR", with(0, "http://1").told(0, 2), 4);
        CHECK.due("SIX", with(0, "http://[::]").told(0, 2), 6);
        CHECK.due("SIX with FOUR in it", with(0, "http://[::ffff:1.2.3.4]").told(0, 2), 6);
    }

    /** "3 how many SEGMENTS" */
    private static void segmentsTold() {
        CHECK.due("one at least", with(0, "http://a").told(0, 3), 1);
        CHECK.due("one at least", with(0, "http://a?q").told(0, 3), 1);
        CHECK.due("one", with(0, "http://a/b").told(0, 3), 1);
        CHECK.due("two", with(0, "http://a/b/").told(0, 3), 2);
        CHECK.due("what went", with(0, "http://a/b/../c").told(0, 3), 1);
        CHECK.due("as many as there can be", with(0, "http://a" + "/".repeat(292)).told(0, 3), 292);
        UrlGate gate = with(0, "http://a/b/c/d");
        Check.read(gate, 0, 0, "..");
        CHECK.due("by a base", gate.told(0, 3), 2);
    }

    /** "BAD." */
    private static void wrongTold() {
        UrlGate gate = with(0, FULL_ONE);
        for (int what : FAR) {
            CHECK.due("told " + what, gate.told(0, what), UrlGate.BAD);
        }
        CHECK.due("told 0", gate.told(0, 0), 81);
        CHECK.due("told 3", gate.told(0, 3), 2);
    }

    /** "of FOUR its 32 bits (k = 0)" */
    private static void numbersOfFour() {
        String[] texts = {"0.0.0.0", "0.0.0.1", "127.255.255.255", "128.0.0.0", "255.255.255.255", "1.2.3.4"};
        int[] bits = {0, 1, Integer.MAX_VALUE, Integer.MIN_VALUE, -1, 0x01020304};
        for (int i = 0; i < texts.length; i++) {
            UrlGate gate = with(0, "http://" + texts[i]);
            for (int k = 0; k < 8; k++) {
                CHECK.due("number " + k + " of " + texts[i], gate.number(0, k), k == 0 ? bits[i] : 0);
            }
        }
    }

    /** "of SIX the eight numbers" */
    private static void numbersOfSix() {
        UrlGate gate = with(0, "http://[8000:1:7fff:ffff:0:fffe:a:8001]");
        int[] numbers = {0x8000, 1, 0x7fff, 0xffff, 0, 0xfffe, 10, 0x8001};
        for (int k = 0; k < 8; k++) {
            CHECK.due("number " + k + " of SIX", gate.number(0, k), numbers[k]);
        }
        gate = with(0, "http://[::ffff:255.254.253.252]");
        CHECK.due("number 5", gate.number(0, 5), 0xffff);
        CHECK.due("number 6", gate.number(0, 6), 0xfffe);
        CHECK.due("number 7", gate.number(0, 7), 0xfdfc);
    }

    /** "0 of others" */
    private static void numbersOfNames() {
        UrlGate gate = with(0, "http://[1:2:3:4:5:6:7:8]");
        Check.read(gate, 0, UrlGate.NONE, "http://a");
        Check.read(gate, 0, UrlGate.NONE, "http://b");
        for (int k = 0; k < 8; k++) {
            CHECK.due("number " + k + " of a NAME", gate.number(0, k), 0);
        }
    }

    /** "BAD: .. or k is not 0 .. 7." */
    private static void wrongNumbers() {
        for (String host : new String[] {"a", "255.255.255.255", "[1:2:3:4:5:6:7:8]"}) {
            UrlGate gate = with(0, "http://" + host);
            for (int k : new int[] {-1, 8, 9, -8, Integer.MAX_VALUE, Integer.MIN_VALUE}) {
                CHECK.due("number " + k + " of " + host, gate.number(0, k), UrlGate.BAD);
            }
        }
    }

    private static void originsOf(String one, String other, int want) {
        UrlGate gate = with(0, one);
        Check.read(gate, 1, UrlGate.NONE, other);
        CHECK.due(one + " and " + other, gate.same(0, 1), want);
        CHECK.due(other + " and " + one, gate.same(1, 0), want);
    }

    /** "Two have ONE ORIGIN, if SCHEME, HOST and PORT .. are the same." - and nothing else counts. */
    private static void origins() {
        originsOf("http://u:p@a/b?c#d", "http://a", 1);
        originsOf("http://a", "https://a:80", 0);
        originsOf("http://a", "ws://a", 0);
        originsOf("wss://a", "https://a", 0);
        originsOf("http://a", "http://A", 1);
        originsOf("http://a", "http://a.", 0);
        originsOf("http://a", "http://ab", 0);
        originsOf("http://ba", "http://a", 0);
        originsOf("http://1.2.3.4", "http://16909060", 1);
        originsOf("http://1.2.3.4", "http://1.2.3.5", 0);
        originsOf("http://1.2.3.4", "http://[::ffff:1.2.3.4]", 0);
        originsOf("http://[::1]", "http://[0::0.0.0.1]", 1);
        originsOf("http://[::1]", "http://[1::]", 0);
        UrlGate gate = with(3, "http://a");
        CHECK.due("with itself", gate.same(3, 3), 1);
    }

    /** "PORT (that of the SCHEME for none)" */
    private static void originsByPort() {
        originsOf("http://a", "http://a:80", 1);
        originsOf("ftp://a", "ftp://a:", 1);
        originsOf("http://a", "http://a:0", 0);
        originsOf("http://a", "http://a:81", 0);
        originsOf("http://a:443", "http://a", 0);
        originsOf("http://a:65535", "http://a:065535", 1);
        originsOf("http://a:65535", "http://a:65534", 0);
    }

    /** "BAD: no RECORDS." */
    private static void noRecordsToCompare() {
        for (int with = 0; with < 4; with++) {
            UrlGate gate = with(with, "http://a");
            for (int place : new int[] {-1, 0, 1, 2, 3, 4, Integer.MAX_VALUE, Integer.MIN_VALUE}) {
                int want = place == with ? 1 : UrlGate.BAD;
                CHECK.due("same(" + with + ", " + place + ")", gate.same(with, place), want);
                CHECK.due("same(" + place + ", " + with + ")", gate.same(place, with), want);
                CHECK.due("same(" + place + ", " + place + ")", gate.same(place, place), want);
            }
        }
    }
}
