/** Promise 13: resolve. */
public final class ResolveTest {
    private static final Check CHECK = new Check();

    public static void main(String[] args) {
        giving();
        wrongKinds();
        faults();
        full();
        byName();
        CHECK.finish();
    }

    private static void giving() {
        UrlGate gate = new UrlGate();
        CHECK.due("FOUR", Check.resolveFour(gate, "a", 1), 1);
        CHECK.due("the text is empty", gate.erase(), 0);
        CHECK.due("SIX", Check.resolveSix(gate, "a", 1, 2, 3, 4), 2);
        CHECK.due("the same", Check.resolveFour(gate, "a", 1), 3);
        CHECK.due("another name", Check.resolveFour(gate, "b.c", -1), 4);
        CHECK.due("clear()", gate.clear(), 4);
        CHECK.due("behind it", Check.resolveFour(gate, "a", 1), 1);
    }

    private static void wrongKinds() {
        UrlGate gate = new UrlGate();
        Check.type(gate, "a b");
        for (int kind : new int[] {0, 1, 3, 5, 7, -4, Integer.MAX_VALUE, Integer.MIN_VALUE}) {
            CHECK.due("kind " + kind, gate.resolve(kind, 1, 0, 0, 0), UrlGate.BAD);
        }
        CHECK.due("the text stays", Check.text(gate), "a b");
        CHECK.due("nothing is given", gate.clear(), 0);
    }

    private static void fails(UrlGate gate, String host, int fault) {
        CHECK.due("FOUR for '" + host + "'", Check.resolveFour(gate, host, 1), fault);
        CHECK.due("the text is empty", gate.erase(), 0);
        CHECK.due("SIX for '" + host + "'", Check.resolveSix(gate, host, 1, 2, 3, 4), fault);
        CHECK.due("the text is empty", gate.erase(), 0);
    }

    private static void faults() {
        UrlGate gate = new UrlGate();
        fails(gate, "", UrlGate.WRONG);
        fails(gate, "a b", UrlGate.WRONG);
        fails(gate, "1.2.3.256", UrlGate.FOUR);
        fails(gate, "[::g]", UrlGate.SIX);
        fails(gate, "1.2.3.4", UrlGate.BAD);
        fails(gate, "[::1]", UrlGate.BAD);
        CHECK.due("nothing is given", gate.clear(), 0);
    }

    private static void full() {
        UrlGate gate = new UrlGate();
        for (int i = 1; i <= 16; i++) {
            CHECK.due("resolve " + i, Check.resolveFour(gate, i % 3 == 0 ? "a" : "b", i), i);
        }
        fails(gate, "a", UrlGate.FULL);
        fails(gate, "c", UrlGate.FULL);
        fails(gate, "1", UrlGate.BAD);
        fails(gate, "a..1", UrlGate.FOUR);
        Check.type(gate, "a");
        CHECK.due("kind before FULL", gate.resolve(5, 0, 0, 0, 0), UrlGate.BAD);
        CHECK.due("clear()", gate.clear(), 16);
    }

    /** 4: nothing is given for the NAME; 0: something, and the range has it. */
    private static void byName() {
        UrlGate gate = new UrlGate();
        gate.range(4, 0, 0, 0, 0, 0);
        Check.list(gate, "a", true);
        Check.resolveFour(gate, "X.A", 1);
        for (String name : new String[] {"a", "x.a.", "y.x.a", ".a", "xx.a", "z.a"}) {
            Check.read(gate, 0, UrlGate.NONE, "http://" + name);
            CHECK.due(name, gate.pass(0), name.equals("x.a.") ? 3 : 4);
        }
        Check.read(gate, 0, UrlGate.NONE, "http://x.a");
        CHECK.due("x.a", gate.pass(0), 0);
    }
}
