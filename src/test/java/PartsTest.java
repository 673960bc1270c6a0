/** Promises 7 to 10: size, part, told, number. */
public final class PartsTest {
    private static final Check CHECK = new Check();
    private static final int[] FAR = {-1, 4, Integer.MAX_VALUE, Integer.MIN_VALUE};

    public static void main(String[] args) {
        allParts();
        missingParts();
        wrongParts();
        toldNumbers();
        numbers();
        CHECK.finish();
    }

    private static void parts(UrlGate gate, int place, String... want) {
        for (int what = 0; what < want.length; what++) {
            CHECK.due("part " + what, Check.part(gate, place, what), want[what]);
            int length = want[what].equals("-") ? UrlGate.NONE : want[what].length();
            CHECK.due("size " + what, gate.size(place, what), length);
            for (int i : new int[] {Math.max(length, 0), length + 2, -1, Integer.MAX_VALUE, Integer.MIN_VALUE}) {
                CHECK.due("part " + what + " at " + i, gate.part(place, what, i), UrlGate.NONE);
            }
        }
    }

    private static void allParts() {
        UrlGate gate = new UrlGate();
        Check.read(gate, 1, UrlGate.NONE, "WSS://me;:a:b@[::0:1]:7/x/../y z//?q=1 '#f#\u00ff");
        parts(gate, 1, "wss", "me%3B", "a%3Ab", "[::1]", "/y%20z//", "q=1%20%27", "f#%FF");
        Check.read(gate, 2, UrlGate.NONE, "http://0x7f.1/");
        parts(gate, 2, "http", "", "", "127.0.0.1", "/", "-", "-");
        Check.read(gate, 3, UrlGate.NONE, "ftp://U@A.B.");
        parts(gate, 3, "ftp", "U", "", "a.b.", "/", "-", "-");
        parts(gate, 1, "wss", "me%3B", "a%3Ab", "[::1]", "/y%20z//", "q=1%20%27", "f#%FF");
    }

    private static void missingParts() {
        UrlGate gate = new UrlGate();
        Check.read(gate, 0, UrlGate.NONE, "http://a?#");
        parts(gate, 0, "http", "", "", "a", "/", "", "");
        Check.read(gate, 0, UrlGate.NONE, "http://a?");
        parts(gate, 0, "http", "", "", "a", "/", "", "-");
        Check.read(gate, 0, UrlGate.NONE, "http://a#");
        parts(gate, 0, "http", "", "", "a", "/", "-", "");
        Check.read(gate, 0, 0, "b");
        parts(gate, 0, "http", "", "", "a", "/b", "-", "-");
    }

    private static void wrongParts() {
        UrlGate gate = new UrlGate();
        Check.read(gate, 0, UrlGate.NONE, "http://a");
        for (int what : new int[] {-1, 7, 8, Integer.MAX_VALUE, Integer.MIN_VALUE}) {
            CHECK.due("size(0, " + what + ")", gate.size(0, what), UrlGate.BAD);
            CHECK.due("part(0, " + what + ", 0)", gate.part(0, what, 0), UrlGate.BAD);
        }
        for (int place : FAR) {
            CHECK.due("size(" + place + ", 5)", gate.size(place, 5), UrlGate.BAD);
            CHECK.due("part(" + place + ", 5, 0)", gate.part(place, 5, 0), UrlGate.BAD);
        }
        CHECK.due("size(1, 0)", gate.size(1, 0), UrlGate.BAD);
        CHECK.due("part(1, 0, -1)", gate.part(1, 0, -1), UrlGate.BAD);
    }

    private static void told(String text, int port, int counts, int kind, int segments) {
        UrlGate gate = new UrlGate();
        Check.read(gate, 3, UrlGate.NONE, text);
        CHECK.due("the PORT of " + text, gate.told(3, 0), port);
        CHECK.due("the one that counts of " + text, gate.told(3, 1), counts);
        CHECK.due("the kind of " + text, gate.told(3, 2), kind);
        CHECK.due("SEGMENTS of " + text, gate.told(3, 3), segments);
        for (int what : FAR) {
            CHECK.due("told(3, " + what + ")", gate.told(3, what), UrlGate.BAD);
        }
        for (int what = 0; what < 4; what++) {
            CHECK.due("told(2, " + what + ")", gate.told(2, what), UrlGate.BAD);
        }
        for (int place : FAR) {
            CHECK.due("told(" + place + ", 0)", gate.told(place, 0), UrlGate.BAD);
        }
    }

    private static void toldNumbers() {
        told("http://a", UrlGate.NONE, 80, 0, 1);
        told("ws://a", UrlGate.NONE, 80, 0, 1);
        told("https://a:443/", UrlGate.NONE, 443, 0, 1);
        told("wss://a/b", UrlGate.NONE, 443, 0, 1);
        told("ftp://a/b/", UrlGate.NONE, 21, 0, 2);
        told("http://1.2.3.4:443//", 443, 443, 4, 2);
        told("ftp://[::1]:0/a/b/c", 0, 0, 6, 3);
        told("http://[::ffff:1.2.3.4]:65535/a/../b", 65535, 65535, 6, 1);
        told("http://a/../..", UrlGate.NONE, 80, 0, 1);
        told("http://a/b/c/../d/", UrlGate.NONE, 80, 0, 3);
        told("http://a/b/c/..", UrlGate.NONE, 80, 0, 2);
    }

    private static void numbers() {
        UrlGate gate = new UrlGate();
        Check.read(gate, 0, UrlGate.NONE, "http://255.254.253.252");
        Check.read(gate, 1, UrlGate.NONE, "http://[fffe:2::7:8000]");
        Check.read(gate, 2, UrlGate.NONE, "http://a");
        int[] six = {0xfffe, 2, 0, 0, 0, 0, 7, 0x8000};
        for (int k = 0; k < 8; k++) {
            CHECK.due("number(0, " + k + ")", gate.number(0, k), k == 0 ? 0xfffefdfc : 0);
            CHECK.due("number(1, " + k + ")", gate.number(1, k), six[k]);
            CHECK.due("number(2, " + k + ")", gate.number(2, k), 0);
            CHECK.due("number(3, " + k + ")", gate.number(3, k), UrlGate.BAD);
        }
        for (int k : new int[] {-1, 8, Integer.MAX_VALUE, Integer.MIN_VALUE}) {
            for (int place = 0; place < 4; place++) {
                CHECK.due("number(" + place + ", " + k + ")", gate.number(place, k), UrlGate.BAD);
            }
        }
        for (int place : FAR) {
            CHECK.due("number(" + place + ", 0)", gate.number(place, 0), UrlGate.BAD);
        }
        Check.read(gate, 1, UrlGate.NONE, "http://b");
        CHECK.due("no number of the old one", gate.number(1, 0), 0);
        Check.read(gate, 1, 0, "/c");
        CHECK.due("the BASE's number", gate.number(1, 0), 0xfffefdfc);
        Check.read(gate, 2, UrlGate.NONE, "http://[1:2:3:4:5:6:7:8]");
        Check.read(gate, 3, 2, "c");
        for (int k = 0; k < 8; k++) {
            CHECK.due("the BASE's number " + k, gate.number(3, k), k + 1);
        }
    }
}
