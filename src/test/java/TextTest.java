/** Promises 2, 3 and 6: type, erase, at. */
public final class TextTest {
    private static final Check CHECK = new Check();

    public static void main(String[] args) {
        typing();
        wrongCounts();
        filling();
        erasing();
        CHECK.finish();
    }

    private static void typing() {
        UrlGate gate = new UrlGate();
        CHECK.due("type 1 of 8", gate.type(0x1122334455667788L, 1), 1);
        CHECK.due("at(0)", gate.at(0), 0x88);
        CHECK.due("at(1)", gate.at(1), UrlGate.NONE);
        CHECK.due("type all 8", gate.type(0xfe22334455667701L, 8), 9);
        int[] want = {0x88, 0x01, 0x77, 0x66, 0x55, 0x44, 0x33, 0x22, 0xfe};
        for (int i = 0; i < want.length; i++) {
            CHECK.due("at(" + i + ")", gate.at(i), want[i]);
        }
        CHECK.due("at(9)", gate.at(9), UrlGate.NONE);
        CHECK.due("at(-1)", gate.at(-1), UrlGate.NONE);
        CHECK.due("at(max)", gate.at(Integer.MAX_VALUE), UrlGate.NONE);
        CHECK.due("at(min)", gate.at(Integer.MIN_VALUE), UrlGate.NONE);
        CHECK.due("type -1 as 3", gate.type(-1L, 3), 12);
        CHECK.due("at(11)", gate.at(11), 255);
        CHECK.due("type 0", gate.type(0, 1), 13);
        CHECK.due("at(12)", gate.at(12), 0);
    }

    private static void wrongCounts() {
        UrlGate gate = new UrlGate();
        gate.type('a', 1);
        for (int n : new int[] {0, -1, 9, 300, Integer.MAX_VALUE, Integer.MIN_VALUE}) {
            CHECK.due("type(98, " + n + ")", gate.type('b', n), UrlGate.BAD);
        }
        CHECK.due("what is left", Check.text(gate), "a");
    }

    private static void filling() {
        UrlGate gate = new UrlGate();
        for (int i = 1; i <= 37; i++) {
            CHECK.due("type 8", gate.type(0x6161616161616161L, 8), 8 * i);
        }
        CHECK.due("type 5 behind 296", gate.type(0x6262626262L, 5), UrlGate.FULL);
        CHECK.due("at(296)", gate.at(296), UrlGate.NONE);
        CHECK.due("type 0 behind 296", gate.type(0, 0), UrlGate.BAD);
        CHECK.due("type 4 behind 296", gate.type(0x62626262L, 4), 300);
        CHECK.due("at(299)", gate.at(299), 'b');
        CHECK.due("type 1 behind 300", gate.type('c', 1), UrlGate.FULL);
        CHECK.due("type 9 behind 300", gate.type('c', 9), UrlGate.BAD);
        CHECK.due("at(300)", gate.at(300), UrlGate.NONE);
    }

    private static void erasing() {
        UrlGate gate = new UrlGate();
        Check.type(gate, "abcdefghij");
        CHECK.due("erase()", gate.erase(), 10);
        CHECK.due("erase() again", gate.erase(), 0);
        CHECK.due("at(0)", gate.at(0), UrlGate.NONE);
        CHECK.due("type behind it", gate.type('x', 1), 1);
        CHECK.due("what is there", Check.text(gate), "x");
        Check.read(gate, 0, UrlGate.NONE, "http://a");
        gate.erase();
        CHECK.due("a record stays", Check.written(gate, 0), "http://a/");
    }
}
