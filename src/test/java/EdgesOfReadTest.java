/** The edges that promise 4 names: a method for each sentence, which stands above it. */
public final class EdgesOfReadTest {
    private static final Check CHECK = new Check();
    private static final String OLD = "http://u:p@h.c:81/x/y?q#f";
    private static final int[] FAR = {-2, 4, 5, 256, Integer.MAX_VALUE, Integer.MIN_VALUE};

    public static void main(String[] args) {
        emptyText();
        emptyTextByABase();
        fullText();
        allPlaces();
        wrongPlaces();
        wrongBases();
        basesWithARecord();
        theSamePlace();
        wrongPlacesBeforeFaults();
        faultsLeaveThePlace();
        faultsLeaveNoRecord();
        upTo1000();
        oneMoreThan1000();
        longBefore(1000);
        longBefore(999);
        fullIsTheLastFault();
        CHECK.finish();
    }

    private static UrlGate withOld(int place) {
        UrlGate gate = new UrlGate();
        CHECK.due("the old one", Check.read(gate, place, UrlGate.NONE, OLD), 0);
        return gate;
    }

    private static void stays(UrlGate gate, int place) {
        CHECK.due("the place stays as it was", Check.written(gate, place), OLD);
    }

    private static void emptyText() {
        UrlGate gate = new UrlGate();
        CHECK.due("an empty TEXT", gate.read(0, UrlGate.NONE), UrlGate.NO_SCHEME);
        CHECK.due("no RECORD comes", gate.size(0, 0), UrlGate.BAD);
        gate = withOld(0);
        CHECK.due("an empty TEXT, NONE", gate.read(0, UrlGate.NONE), UrlGate.NO_SCHEME);
        stays(gate, 0);
    }

    private static void emptyTextByABase() {
        UrlGate gate = withOld(0);
        CHECK.due("an empty TEXT by a base", gate.read(1, 0), 0);
        CHECK.due("all but the FRAGMENT", Check.written(gate, 1), "http://u:p@h.c:81/x/y?q");
        CHECK.due("an empty TEXT by itself", gate.read(0, 0), 0);
        CHECK.due("all but the FRAGMENT", Check.written(gate, 0), "http://u:p@h.c:81/x/y?q");
        CHECK.due("no FRAGMENT", gate.size(0, 6), UrlGate.NONE);
    }

    private static void fullText() {
        UrlGate gate = new UrlGate();
        CHECK.due("300 bytes", Check.read(gate, 0, UrlGate.NONE, "http://a/" + "b".repeat(290) + "c"), 0);
        CHECK.due("all of them", gate.size(0, 4), 292);
        CHECK.due("the last one", gate.part(0, 4, 291), 'c');
        CHECK.due("THE TEXT is empty", gate.erase(), 0);
        CHECK.due("300 that are all ESCAPED", Check.read(gate, 1, 0, "#" + "<".repeat(299)), UrlGate.FULL);
        Check.read(gate, 0, UrlGate.NONE, "http://a");
        CHECK.due("300 that are all ESCAPED", Check.read(gate, 1, 0, "#" + "<".repeat(299)), 0);
        CHECK.due("three bytes each", gate.size(1, 6), 897);
    }

    /** "place 0 .. 3 has that RECORD: 0" - and THE TEXT is empty then. */
    private static void allPlaces() {
        for (int place = 0; place < 4; place++) {
            UrlGate gate = new UrlGate();
            CHECK.due("read(" + place + ")", Check.read(gate, place, UrlGate.NONE, "ws://a/b"), 0);
            CHECK.due("THE TEXT is empty", gate.erase(), 0);
            for (int other = 0; other < 4; other++) {
                CHECK.due("SCHEME at " + other, gate.size(other, 0), other == place ? 2 : UrlGate.BAD);
            }
        }
    }

    /** "BAD (THE TEXT stays): places." */
    private static void wrongPlaces() {
        UrlGate gate = withOld(2);
        Check.type(gate, "http://a");
        for (int place : new int[] {-1, -2, 4, 5, 256, Integer.MAX_VALUE, Integer.MIN_VALUE}) {
            CHECK.due("read(" + place + ", NONE)", gate.read(place, UrlGate.NONE), UrlGate.BAD);
            CHECK.due("read(" + place + ", 2)", gate.read(place, 2), UrlGate.BAD);
        }
        CHECK.due("THE TEXT stays", Check.text(gate), "http://a");
        CHECK.due("and can be read", gate.read(0, UrlGate.NONE), 0);
    }

    private static void wrongBases() {
        UrlGate gate = withOld(2);
        Check.type(gate, "http://a");
        for (int base : FAR) {
            CHECK.due("read(2, " + base + ")", gate.read(2, base), UrlGate.BAD);
        }
        for (int base : new int[] {0, 1, 3}) {
            CHECK.due("a base without a RECORD, " + base, gate.read(2, base), UrlGate.BAD);
            CHECK.due("the same place without one, " + base, gate.read(base, base), UrlGate.BAD);
        }
        CHECK.due("THE TEXT stays", Check.text(gate), "http://a");
        gate.erase();
        stays(gate, 2);
        CHECK.due("no RECORD came", gate.size(0, 0), UrlGate.BAD);
    }

    /** "Base: a place that has a RECORD (perhaps the same one), or NONE." */
    private static void basesWithARecord() {
        for (int base = 0; base < 4; base++) {
            for (int place = 0; place < 4; place++) {
                UrlGate gate = withOld(base);
                CHECK.due("read(" + place + ", " + base + ")", Check.read(gate, place, base, "z"), 0);
                CHECK.due("by it", Check.written(gate, place), "http://u:p@h.c:81/x/z");
                if (place != base) {
                    stays(gate, base);
                }
            }
        }
        UrlGate gate = withOld(1);
        CHECK.due("NONE is not a place's RECORD", Check.read(gate, 1, UrlGate.NONE, "z"), UrlGate.NO_SCHEME);
    }

    private static void theSamePlace() {
        String[] texts = {"#g", "?r", "w", "/v", "//k/l", "http:", "ws:m"};
        String[] wants = {"http://u:p@h.c:81/x/y?q#g", "http://u:p@h.c:81/x/y?r", "http://u:p@h.c:81/x/w", "http://u:p@h.c:81/v",
            "http://k/l", "http://u:p@h.c:81/x/y?q", "ws://m/"};
        for (int i = 0; i < texts.length; i++) {
            UrlGate gate = withOld(3);
            CHECK.due("read of " + texts[i], Check.read(gate, 3, 3, texts[i]), 0);
            CHECK.due("by itself", Check.written(gate, 3), wants[i]);
        }
    }

    private static void wrongPlacesBeforeFaults() {
        UrlGate gate = new UrlGate();
        Check.type(gate, "no scheme");
        CHECK.due("place, and a fault", gate.read(4, UrlGate.NONE), UrlGate.BAD);
        CHECK.due("base, and a fault", gate.read(0, 0), UrlGate.BAD);
        CHECK.due("THE TEXT stays", gate.erase(), 9);
        CHECK.due("place, of nothing", gate.read(-1, UrlGate.NONE), UrlGate.BAD);
    }

    private static final String[] FAULTY = {"1", "x:", "http://", "http://a%", "http://256.1", "http://[1]", "http://a:x"};
    private static final int[] FAULTS = {
        UrlGate.NO_SCHEME, UrlGate.STRANGE, UrlGate.NO_HOST, UrlGate.WRONG, UrlGate.FOUR, UrlGate.SIX, UrlGate.PORT,
    };

    /** "THE TEXT is read, and empty then: .. or the fault .. (the place stays as it was)." */
    private static void faultsLeaveThePlace() {
        for (int i = 0; i < FAULTS.length; i++) {
            UrlGate gate = withOld(1);
            CHECK.due("read of " + FAULTY[i], Check.read(gate, 1, UrlGate.NONE, FAULTY[i]), FAULTS[i]);
            CHECK.due("THE TEXT is empty", gate.erase(), 0);
            stays(gate, 1);
            if (i > 0) {
                CHECK.due("by itself " + FAULTY[i], Check.read(gate, 1, 1, FAULTY[i]), FAULTS[i]);
                CHECK.due("THE TEXT is empty", gate.erase(), 0);
                stays(gate, 1);
            }
            CHECK.due("the next one", Check.read(gate, 1, 1, "?z"), 0);
            CHECK.due("has nothing of the faulty one", Check.written(gate, 1), "http://u:p@h.c:81/x/y?z");
        }
    }

    private static void faultsLeaveNoRecord() {
        for (int i = 0; i < FAULTS.length; i++) {
            UrlGate gate = new UrlGate();
            CHECK.due("read of " + FAULTY[i], Check.read(gate, 0, UrlGate.NONE, FAULTY[i]), FAULTS[i]);
            CHECK.due("no RECORD to write", gate.write(0), UrlGate.BAD);
            CHECK.due("no RECORD as a base", gate.read(0, 0), UrlGate.BAD);
        }
    }

    /** A RECORD in place 0 that is WRITTEN with so many bytes, and its last SEGMENT is without any. */
    private static UrlGate withLength(int length) {
        UrlGate gate = new UrlGate();
        Check.read(gate, 0, UrlGate.NONE, "http://a/");
        int left = length - 9;
        while (left > 0) {
            int n = Math.min(left, 250);
            CHECK.due("a longer one", Check.read(gate, 0, 0, "b".repeat(n - 1) + "/"), 0);
            left -= n;
        }
        CHECK.due("length " + length, gate.size(0, 4), length - 8);
        return gate;
    }

    private static String tail(char first, int n) {
        return first + "c".repeat(n - 1);
    }

    /** "WRITTEN it would be longer than 1000" - just 1000 is not. */
    private static void upTo1000() {
        for (char first : new char[] {'c', '?', '#'}) {
            UrlGate gate = withLength(900);
            CHECK.due("1000 by " + first, Check.read(gate, 0, 0, tail(first, 100)), 0);
            int all = gate.size(0, 4) + Math.max(0, gate.size(0, 5) + 1) + Math.max(0, gate.size(0, 6) + 1);
            CHECK.due("all of it", 8 + all, 1000);
        }
        UrlGate gate = withLength(1000);
        CHECK.due("by a fault's side", Check.read(gate, 1, 0, ""), 0);
        CHECK.due("1000 copied", gate.size(1, 4), 992);
    }

    private static void oneMoreThan1000() {
        for (char first : new char[] {'c', '?', '#'}) {
            UrlGate gate = withLength(900);
            Check.read(gate, 1, UrlGate.NONE, OLD);
            CHECK.due("1001 by " + first, Check.read(gate, 1, 0, tail(first, 101)), UrlGate.FULL);
            CHECK.due("THE TEXT is empty", gate.erase(), 0);
            stays(gate, 1);
            CHECK.due("1001 in no RECORD by " + first, Check.read(gate, 2, 0, tail(first, 101)), UrlGate.FULL);
            CHECK.due("no RECORD comes", gate.size(2, 0), UrlGate.BAD);
            CHECK.due("1001 by itself", Check.read(gate, 0, 0, tail(first, 101)), UrlGate.FULL);
            CHECK.due("the place stays as it was", gate.size(0, 4), 892);
            CHECK.due("no QUERY came", gate.size(0, 5), UrlGate.NONE);
            CHECK.due("no FRAGMENT came", gate.size(0, 6), UrlGate.NONE);
        }
    }

    /** What is WRITTEN counts, not what is typed, and not what goes again. */
    private static void longBefore(int length) {
        UrlGate gate = withLength(length);
        int left = 1000 - length;
        CHECK.due("? or # alone", Check.read(gate, 1, 0, "?"), left == 0 ? UrlGate.FULL : 0);
        CHECK.due("? or # alone", Check.read(gate, 1, 0, "#"), left == 0 ? UrlGate.FULL : 0);
        CHECK.due("?# is two", Check.read(gate, 1, 0, "?#"), UrlGate.FULL);
        CHECK.due("an ESCAPED byte is three", Check.read(gate, 1, 0, "<"), UrlGate.FULL);
        CHECK.due("what goes again", Check.read(gate, 1, 0, "d".repeat(200) + "/.."), 0);
        CHECK.due("what goes again", gate.size(1, 4), length - 8);
        CHECK.due("what is not read", Check.read(gate, 1, 0, "\t".repeat(200)), 0);
        CHECK.due("another PATH", Check.read(gate, 1, 0, "/" + "e".repeat(299)), 0);
        CHECK.due("another PATH", gate.size(1, 4), 300);
    }

    /** "or the fault, FULL as the last one" */
    private static void fullIsTheLastFault() {
        UrlGate gate = withLength(1000);
        for (int i = 1; i < FAULTS.length; i++) {
            CHECK.due("by a long base " + FAULTY[i], Check.read(gate, 1, 0, FAULTY[i] + "?" + "<".repeat(200)), FAULTS[i]);
        }
        CHECK.due("and FULL", Check.read(gate, 1, 0, "<".repeat(200)), UrlGate.FULL);
    }
}
