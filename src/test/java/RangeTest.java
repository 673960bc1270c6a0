/** Promise 14: range, and which addresses lie in one. */
public final class RangeTest {
    private static final Check CHECK = new Check();

    public static void main(String[] args) {
        listing();
        full();
        foursByBits();
        sixesByBits();
        fourInSix();
        kinds();
        CHECK.finish();
    }

    private static void listing() {
        UrlGate gate = new UrlGate();
        CHECK.due("4, 0 bits", gate.range(4, 0, 0, 0, 0, 0), 1);
        CHECK.due("4, 32 bits", gate.range(4, 1, 0, 0, 0, 32), 2);
        CHECK.due("6, 0 bits", gate.range(6, 1, 2, 3, 4, 0), 3);
        CHECK.due("6, 128 bits", gate.range(6, 1, 2, 3, 4, 128), 4);
        CHECK.due("the same", gate.range(6, 1, 2, 3, 4, 128), 5);
        CHECK.due("4, 33 bits", gate.range(4, 0, 0, 0, 0, 33), UrlGate.BAD);
        CHECK.due("4, 128 bits", gate.range(4, 0, 0, 0, 0, 128), UrlGate.BAD);
        CHECK.due("6, 129 bits", gate.range(6, 0, 0, 0, 0, 129), UrlGate.BAD);
        for (int bits : new int[] {-1, Integer.MAX_VALUE, Integer.MIN_VALUE}) {
            CHECK.due("4, bits " + bits, gate.range(4, 0, 0, 0, 0, bits), UrlGate.BAD);
            CHECK.due("6, bits " + bits, gate.range(6, 0, 0, 0, 0, bits), UrlGate.BAD);
        }
        for (int kind : new int[] {0, 1, 3, 5, 7, -4, Integer.MAX_VALUE, Integer.MIN_VALUE}) {
            CHECK.due("kind " + kind, gate.range(kind, 0, 0, 0, 0, 0), UrlGate.BAD);
        }
        CHECK.due("clear()", gate.clear(), 5);
        CHECK.due("behind it", gate.range(4, 0, 0, 0, 0, 32), 1);
    }

    private static void full() {
        UrlGate gate = new UrlGate();
        for (int i = 1; i <= 12; i++) {
            CHECK.due("range " + i, gate.range(i % 2 == 0 ? 4 : 6, i, 0, 0, 0, i), i);
        }
        CHECK.due("one more", gate.range(4, 0, 0, 0, 0, 0), UrlGate.FULL);
        CHECK.due("BAD before FULL", gate.range(4, 0, 0, 0, 0, 33), UrlGate.BAD);
        CHECK.due("BAD before FULL", gate.range(5, 0, 0, 0, 0, 0), UrlGate.BAD);
        CHECK.due("clear()", gate.clear(), 12);
    }

    private static int bit(int word, int i) {
        return i / 32 == word ? 1 << (31 - i % 32) : 0;
    }

    private static int passOfFour(int address, int range, int bits) {
        UrlGate gate = new UrlGate();
        Check.list(gate, "a", false);
        Check.resolveFour(gate, "a", address);
        gate.range(4, range, -1, -1, -1, bits);
        Check.read(gate, 0, UrlGate.NONE, "http://a");
        return gate.pass(0);
    }

    /** One bit that is another one counts just if the range has it. */
    private static void foursByBits() {
        int address = 0xc0a80a05;
        for (int bits = 0; bits <= 32; bits++) {
            CHECK.due("/" + bits, passOfFour(address, address, bits), 0);
            for (int i = 0; i < 32; i++) {
                CHECK.due("/" + bits + ", bit " + i, passOfFour(address, address ^ bit(0, i), bits), i < bits ? 5 : 0);
            }
        }
    }

    private static void sixesByBits() {
        for (int bits = 0; bits <= 128; bits++) {
            for (int i = 0; i < 128; i++) {
                UrlGate gate = new UrlGate();
                Check.list(gate, "a", false);
                Check.resolveSix(gate, "a", 0x20010db8, -1, 0x12345678, 5);
                gate.range(6, 0x20010db8 ^ bit(0, i), -1 ^ bit(1, i), 0x12345678 ^ bit(2, i), 5 ^ bit(3, i), bits);
                Check.read(gate, 0, UrlGate.NONE, "http://a");
                CHECK.due("/" + bits + ", bit " + i, gate.pass(0), i < bits ? 5 : 0);
            }
        }
    }

    private static int passOfSix(int a, int b, int c, int d, UrlGate gate) {
        Check.list(gate, "a", false);
        Check.resolveSix(gate, "a", a, b, c, d);
        Check.read(gate, 0, UrlGate.NONE, "http://a");
        return gate.pass(0);
    }

    private static UrlGate withRange(int kind, int a, int b, int c, int d, int bits) {
        UrlGate gate = new UrlGate();
        gate.range(kind, a, b, c, d, bits);
        return gate;
    }

    private static void fourInSix() {
        CHECK.due("in its range of FOUR", passOfSix(0, 0, 0xffff, 0x01020304, withRange(4, 0x01020000, 0, 0, 0, 16)), 0);
        CHECK.due("in no range of FOUR", passOfSix(0, 0, 0xffff, 0x01030304, withRange(4, 0x01020000, 0, 0, 0, 16)), 5);
        CHECK.due("in no range of SIX", passOfSix(0, 0, 0xffff, 0x01020304, withRange(6, 0, 0, 0, 0, 0)), 5);
        CHECK.due("not in its own of SIX", passOfSix(0, 0, 0xffff, 1, withRange(6, 0, 0, 0xffff, 1, 128)), 5);
        CHECK.due("first bits not 0", passOfSix(1, 0, 0xffff, 1, withRange(4, 0, 0, 0, 0, 0)), 5);
        CHECK.due("second bits not 0", passOfSix(0, 1, 0xffff, 1, withRange(4, 0, 0, 0, 0, 0)), 5);
        CHECK.due("bit 79 not 0", passOfSix(0, 0, 0x1ffff, 1, withRange(4, 0, 0, 0, 0, 0)), 5);
        CHECK.due("bit 95 not 1", passOfSix(0, 0, 0xfffe, 1, withRange(4, 0, 0, 0, 0, 0)), 5);
        CHECK.due("bit 79 not 0, SIX", passOfSix(0, 0, 0x1ffff, 1, withRange(6, 0, 0, 0, 0, 0)), 0);
        hostOfSix();
    }

    private static void hostOfSix() {
        UrlGate gate = new UrlGate();
        Check.list(gate, "[::ffff:1.2.3.4]", false);
        Check.read(gate, 0, UrlGate.NONE, "http://[::ffff:1.2.3.4]/");
        gate.range(6, 0, 0, 0, 0, 0);
        CHECK.due("a HOST in no range of SIX", gate.pass(0), 5);
        gate.range(4, 0x01020305, 0, 0, 0, 32);
        CHECK.due("a HOST in no range of FOUR", gate.pass(0), 5);
        gate.range(4, 0x01020304, 0, 0, 0, 32);
        CHECK.due("a HOST in its range of FOUR", gate.pass(0), 0);
    }

    private static void kinds() {
        UrlGate gate = new UrlGate();
        Check.list(gate, "a", false);
        Check.resolveFour(gate, "a", 1);
        Check.read(gate, 0, UrlGate.NONE, "http://a");
        gate.range(6, 0, 0, 0, 0, 0);
        CHECK.due("FOUR in SIX", gate.pass(0), 5);
        CHECK.due("SIX in FOUR", passOfSix(0, 0, 0, 1, withRange(4, 0, 0, 0, 0, 0)), 5);
        CHECK.due("SIX in SIX", passOfSix(0, 0, 0, 1, withRange(6, 0, 0, 0, 0, 127)), 0);
    }
}
