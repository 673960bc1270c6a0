/** The edges that promises 1, 2, 3, 5 and 6 name: a method for each sentence, which stands above it. */
public final class EdgesOfTextTest {
    private static final Check CHECK = new Check();
    private static final long EIGHT = 0x8877665544332211L;

    public static void main(String[] args) {
        newObject();
        lowestBytesFirst();
        wrongCounts();
        wrongCountsOfAFullText();
        for (int n = 1; n <= 8; n++) {
            upTo300(n);
            oneMoreThan300(n);
        }
        eraseOfNothing();
        eraseOfAll();
        eraseLeavesTheRest();
        bytesOfNothing();
        bytesOfOne();
        bytesOfAll();
        writtenOverWhatWasThere();
        writtenWith300();
        writtenWithMore();
        noRecordToWrite();
        CHECK.finish();
    }

    private static UrlGate withText(int length) {
        UrlGate gate = new UrlGate();
        Check.type(gate, "a".repeat(length));
        return gate;
    }

    /** "An empty TEXT, no RECORDS, nothing listed." */
    private static void newObject() {
        UrlGate gate = new UrlGate();
        CHECK.due("new: at(0)", gate.at(0), UrlGate.NONE);
        CHECK.due("new: erase()", gate.erase(), 0);
        CHECK.due("new: clear()", gate.clear(), 0);
        for (int place = 0; place < 4; place++) {
            CHECK.due("new: write(" + place + ")", gate.write(place), UrlGate.BAD);
        }
        CHECK.due("new: the first HOST", Check.list(gate, "a", false), 1);
        CHECK.due("new: the first ADDRESS", Check.resolveFour(gate, "a", 1), 1);
        CHECK.due("new: the first RANGE", gate.range(4, 0, 0, 0, 0, 0), 1);
    }

    /** "The lowest n (1 .. 8) bytes of w, the lowest first, come behind THE TEXT: how long it is." */
    private static void lowestBytesFirst() {
        for (int n = 1; n <= 8; n++) {
            UrlGate gate = new UrlGate();
            gate.type(0x7a, 1);
            CHECK.due("type of " + n, gate.type(EIGHT, n), n + 1);
            CHECK.due("what was there", gate.at(0), 0x7a);
            for (int i = 0; i < n; i++) {
                CHECK.due("byte " + i + " of " + n, gate.at(i + 1), 0x11 * (i + 1));
            }
            CHECK.due("behind " + n, gate.at(n + 1), UrlGate.NONE);
        }
    }

    /** "BAD: n" - nothing comes. */
    private static void wrongCounts() {
        for (int n : new int[] {0, 9, -1, -8, 10, 256 + 1, Integer.MAX_VALUE, Integer.MIN_VALUE, Integer.MIN_VALUE + 1}) {
            UrlGate gate = withText(2);
            CHECK.due("type of " + n, gate.type(EIGHT, n), UrlGate.BAD);
            CHECK.due("none of " + n + " comes", Check.text(gate), "aa");
        }
    }

    /** "BAD: n; FULL" - in this order. */
    private static void wrongCountsOfAFullText() {
        for (int n : new int[] {0, 9, -1, Integer.MAX_VALUE, Integer.MIN_VALUE}) {
            CHECK.due("type of " + n + " behind 300", withText(300).type(EIGHT, n), UrlGate.BAD);
            CHECK.due("type of " + n + " behind 299", withText(299).type(EIGHT, n), UrlGate.BAD);
        }
    }

    /** "THE TEXT has up to 300 bytes." */
    private static void upTo300(int n) {
        UrlGate gate = withText(300 - n);
        CHECK.due("type of " + n + " up to 300", gate.type(EIGHT, n), 300);
        CHECK.due("the last byte", gate.at(299), 0x11 * n);
        CHECK.due("behind it", gate.at(300), UrlGate.NONE);
    }

    /** "FULL, and none comes." */
    private static void oneMoreThan300(int n) {
        UrlGate gate = withText(301 - n);
        CHECK.due("type of " + n + " up to 301", gate.type(EIGHT, n), UrlGate.FULL);
        CHECK.due("none comes", gate.at(301 - n), UrlGate.NONE);
        CHECK.due("the last one stays", gate.at(300 - n), 'a');
        if (n > 1) {
            CHECK.due("one less than " + n, gate.type(EIGHT, n - 1), 300);
        }
        CHECK.due("how long", gate.erase(), 300);
    }

    /** "THE TEXT is empty: how long it was." - of an empty one. */
    private static void eraseOfNothing() {
        UrlGate gate = new UrlGate();
        CHECK.due("erase of nothing", gate.erase(), 0);
        CHECK.due("and once more", gate.erase(), 0);
        CHECK.due("the first byte behind it", gate.type('b', 1), 1);
        CHECK.due("erase of one", gate.erase(), 1);
    }

    /** The same of a full one. */
    private static void eraseOfAll() {
        UrlGate gate = withText(300);
        CHECK.due("erase of all", gate.erase(), 300);
        CHECK.due("nothing is left", gate.at(0), UrlGate.NONE);
        CHECK.due("nothing is left at the end", gate.at(299), UrlGate.NONE);
        CHECK.due("erase of nothing", gate.erase(), 0);
        CHECK.due("all of it is free again", Check.type(gate, "b".repeat(300)), 300);
        CHECK.due("with the new bytes", gate.at(299), 'b');
    }

    private static void eraseLeavesTheRest() {
        UrlGate gate = new UrlGate();
        Check.read(gate, 0, UrlGate.NONE, "http://a/");
        Check.list(gate, "a", false);
        gate.erase();
        CHECK.due("the RECORD stays", gate.write(0), 9);
        CHECK.due("what is listed stays", gate.clear(), 1);
    }

    /** "Byte i of THE TEXT; NONE: there is none." - of an empty one. */
    private static void bytesOfNothing() {
        UrlGate gate = new UrlGate();
        for (int i : new int[] {-1, 0, 1, 299, 300, Integer.MAX_VALUE, Integer.MIN_VALUE}) {
            CHECK.due("at(" + i + ") of nothing", gate.at(i), UrlGate.NONE);
        }
    }

    private static void bytesOfOne() {
        for (int b : new int[] {0, 1, 127, 128, 254, 255}) {
            UrlGate gate = new UrlGate();
            gate.type(b, 1);
            CHECK.due("at(-1) of one", gate.at(-1), UrlGate.NONE);
            CHECK.due("at(0) of one", gate.at(0), b);
            CHECK.due("at(1) of one", gate.at(1), UrlGate.NONE);
        }
    }

    private static void bytesOfAll() {
        UrlGate gate = new UrlGate();
        Check.type(gate, "b" + "a".repeat(298) + "c");
        CHECK.due("at(-1) of 300", gate.at(-1), UrlGate.NONE);
        CHECK.due("at(0) of 300", gate.at(0), 'b');
        CHECK.due("at(1) of 300", gate.at(1), 'a');
        CHECK.due("at(298) of 300", gate.at(298), 'a');
        CHECK.due("at(299) of 300", gate.at(299), 'c');
        CHECK.due("at(300) of 300", gate.at(300), UrlGate.NONE);
        CHECK.due("at(max) of 300", gate.at(Integer.MAX_VALUE), UrlGate.NONE);
        CHECK.due("at(min) of 300", gate.at(Integer.MIN_VALUE), UrlGate.NONE);
    }

    /** "A place's RECORD is WRITTEN to THE TEXT (whatever was there): how long it is." */
    private static void writtenOverWhatWasThere() {
        for (int before : new int[] {0, 1, 9, 299, 300}) {
            UrlGate gate = new UrlGate();
            Check.read(gate, 3, UrlGate.NONE, "http://b");
            Check.type(gate, "x".repeat(before));
            CHECK.due("write over " + before, gate.write(3), 9);
            CHECK.due("the text over " + before, Check.text(gate), "http://b/");
            CHECK.due("how long it is", gate.erase(), 9);
            CHECK.due("the RECORD stays", gate.write(3), 9);
        }
    }

    private static UrlGate withRecordOf(int length) {
        UrlGate gate = new UrlGate();
        int answer = Check.read(gate, 0, UrlGate.NONE, "http:b/" + "c".repeat(length - 9));
        CHECK.due("read of " + length, answer, 0);
        return gate;
    }

    private static void writtenWith300() {
        for (int length : new int[] {9, 299, 300}) {
            UrlGate gate = withRecordOf(length);
            CHECK.due("write of " + length, gate.write(0), length);
            CHECK.due("the last byte", gate.at(length - 1), length == 9 ? '/' : 'c');
            CHECK.due("behind it", gate.at(length), UrlGate.NONE);
            CHECK.due("read back of " + length, gate.read(1, UrlGate.NONE), 0);
            CHECK.due("write once more", gate.write(1), length);
        }
    }

    /** "FULL, and nothing is done: more than 300." */
    private static void writtenWithMore() {
        for (int length : new int[] {301, 302}) {
            for (String before : new String[] {"", "what was there", "x".repeat(300)}) {
                UrlGate gate = withRecordOf(length);
                Check.type(gate, before);
                CHECK.due("write of " + length, gate.write(0), UrlGate.FULL);
                CHECK.due("nothing is done", Check.text(gate), before);
                CHECK.due("the RECORD stays", gate.size(0, 4), length - 8);
            }
        }
        UrlGate gate = withRecordOf(301);
        for (int i = 0; i < 4; i++) {
            Check.read(gate, 0, 0, "d".repeat(150) + "/");
        }
        CHECK.due("write of a long one", gate.write(0), UrlGate.FULL);
        CHECK.due("nothing is done", gate.erase(), 0);
    }

    /** "BAD: no RECORD there" */
    private static void noRecordToWrite() {
        for (int with = 0; with < 4; with++) {
            UrlGate gate = new UrlGate();
            Check.read(gate, with, UrlGate.NONE, "http://a");
            Check.type(gate, "kept");
            for (int place : new int[] {-1, 0, 1, 2, 3, 4, Integer.MAX_VALUE, Integer.MIN_VALUE}) {
                if (place != with) {
                    CHECK.due("write(" + place + ")", gate.write(place), UrlGate.BAD);
                }
            }
            CHECK.due("THE TEXT stays", Check.text(gate), "kept");
            CHECK.due("write(" + with + ")", gate.write(with), 9);
        }
    }
}
