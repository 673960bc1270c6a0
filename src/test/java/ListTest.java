/** Promise 12: list. */
public final class ListTest {
    private static final Check CHECK = new Check();

    public static void main(String[] args) {
        listing();
        faults();
        full();
        listedOrNot();
        CHECK.finish();
    }

    private static void listing() {
        UrlGate gate = new UrlGate();
        CHECK.due("a name", Check.list(gate, "A.b", false), 1);
        CHECK.due("the text is empty", gate.erase(), 0);
        CHECK.due("once more", Check.list(gate, "a.B", false), 2);
        CHECK.due("open", Check.list(gate, "a.b", true), 3);
        CHECK.due("FOUR", Check.list(gate, "1.2.3.4", false), 4);
        CHECK.due("SIX", Check.list(gate, "[::1]", false), 5);
        CHECK.due("clear()", gate.clear(), 5);
        CHECK.due("behind it", Check.list(gate, "c", false), 1);
    }

    private static void fails(UrlGate gate, String text, boolean open, int fault) {
        CHECK.due("list of '" + text + "'", Check.list(gate, text, open), fault);
        CHECK.due("the text is empty", gate.erase(), 0);
    }

    private static void faults() {
        UrlGate gate = new UrlGate();
        fails(gate, "", false, UrlGate.WRONG);
        fails(gate, "a b", false, UrlGate.WRONG);
        fails(gate, " a", false, UrlGate.WRONG);
        fails(gate, "a\n", false, UrlGate.WRONG);
        fails(gate, "a:80", true, UrlGate.WRONG);
        fails(gate, "a/", true, UrlGate.WRONG);
        fails(gate, "u@a", true, UrlGate.WRONG);
        fails(gate, "http://a", true, UrlGate.WRONG);
        fails(gate, "xn--a", false, UrlGate.WRONG);
        fails(gate, "256.256", true, UrlGate.FOUR);
        fails(gate, "[1]", true, UrlGate.SIX);
        fails(gate, "[::1]:80", false, UrlGate.SIX);
        fails(gate, "1.2.3.4", true, UrlGate.BAD);
        fails(gate, "[::1]", true, UrlGate.BAD);
        CHECK.due("nothing is listed", gate.clear(), 0);
    }

    private static void full() {
        UrlGate gate = new UrlGate();
        for (int i = 1; i <= 12; i++) {
            CHECK.due("list " + i, Check.list(gate, "a" + i + "x", i % 2 == 0), i);
        }
        fails(gate, "b", false, UrlGate.FULL);
        fails(gate, "a1x", false, UrlGate.FULL);
        fails(gate, "", false, UrlGate.WRONG);
        fails(gate, "1.2.3.256", true, UrlGate.FOUR);
        fails(gate, "1.2.3.4", true, UrlGate.BAD);
        fails(gate, "1.2.3.4", false, UrlGate.FULL);
        CHECK.due("clear()", gate.clear(), 12);
    }

    /** 3: not listed; 4 (a NAME) or 5 (an address): listed. */
    private static void listed(String listed, boolean open, String host, int want) {
        UrlGate gate = new UrlGate();
        Check.list(gate, "z.z", false);
        Check.list(gate, listed, open);
        Check.read(gate, 0, UrlGate.NONE, "http://" + host);
        CHECK.due(host + " with " + listed + (open ? " open" : ""), gate.pass(0), want);
    }

    private static void listedOrNot() {
        listed("a.b", false, "A.B", 4);
        listed("A.%42", false, "a.b", 4);
        listed("a.b", false, "x.a.b", 3);
        listed("a.b", true, "a.b", 4);
        listed("a.b", true, "x.a.b", 4);
        listed("a.b", true, "y.x.a.b", 4);
        listed("a.b", true, ".a.b", 4);
        listed("a.b", true, "xa.b", 3);
        listed("a.b", true, "b", 3);
        listed("a.b", true, ".b", 3);
        listed("a.b", true, "a.b.", 3);
        listed("a.b", true, "x.a.b.", 3);
        listed("a.b.", true, "x.a.b.", 4);
        listed("a.b", true, "a.b.c", 3);
        listed("a.b", true, "xxa.c", 3);
        listed("b", true, "z.z.b", 4);
        listed("1.2.3.4", false, "0x1020304", 5);
        listed("1.2.3.4", false, "1.2.3.5", 3);
        listed("1.2.3.4", false, "[::ffff:1.2.3.4]", 3);
        listed("[::ffff:1.2.3.4]", false, "1.2.3.4", 3);
        listed("[::ffff:1.2.3.4]", false, "[::ffff:102:304]", 5);
        listed("[::1]", false, "[0::0:1]", 5);
        listed("[::1]", false, "[::2]", 3);
    }
}
