/** Promise 5 and section 3: a RECORD is WRITTEN to THE TEXT, and reads back as the same. */
public final class WriteTest {
    private static final Check CHECK = new Check();

    public static void main(String[] args) {
        wholeRecords();
        noRecords();
        tooLong();
        readsBack();
        CHECK.finish();
    }

    private static void wholeRecords() {
        UrlGate gate = new UrlGate();
        Check.read(gate, 0, UrlGate.NONE, "HTTPS://u:p@h.c:8443/x/../y/./z?q r#f g");
        Check.type(gate, "what was there");
        CHECK.due("write(0)", gate.write(0), 36);
        CHECK.due("the text", Check.text(gate), "https://u:p@h.c:8443/y/z?q%20r#f%20g");
        CHECK.due("write(0) again", gate.write(0), 36);
        CHECK.due("the text again", Check.text(gate), "https://u:p@h.c:8443/y/z?q%20r#f%20g");
        CHECK.due("type behind it", gate.type('!', 1), 37);
        CHECK.due("read of it", gate.read(1, UrlGate.NONE), 0);
        CHECK.due("with it", Check.written(gate, 1), "https://u:p@h.c:8443/y/z?q%20r#f%20g!");
        Check.read(gate, 2, UrlGate.NONE, "ws://:p@0x7f.1:0//?#");
        CHECK.due("empty parts", Check.written(gate, 2), "ws://:p@127.0.0.1:0//?#");
        Check.read(gate, 3, UrlGate.NONE, "ftp:[0:0::1]");
        CHECK.due("a short one", Check.written(gate, 3), "ftp://[::1]/");
    }

    private static void noRecords() {
        UrlGate gate = new UrlGate();
        Check.read(gate, 1, UrlGate.NONE, "http://a");
        Check.type(gate, "kept");
        for (int place : new int[] {0, 2, 3, 4, -1, Integer.MAX_VALUE, Integer.MIN_VALUE}) {
            CHECK.due("write(" + place + ")", gate.write(place), UrlGate.BAD);
        }
        CHECK.due("the text stays", Check.text(gate), "kept");
    }

    private static void tooLong() {
        UrlGate gate = new UrlGate();
        CHECK.due("300 bytes", Check.read(gate, 0, UrlGate.NONE, "http://a/" + "b".repeat(291)), 0);
        CHECK.due("301 bytes", Check.read(gate, 1, UrlGate.NONE, "http:a/" + "b".repeat(292)), 0);
        CHECK.due("write 300", gate.write(0), 300);
        CHECK.due("erase", gate.erase(), 300);
        Check.type(gate, "kept");
        CHECK.due("write 301", gate.write(1), UrlGate.FULL);
        CHECK.due("nothing is done", Check.text(gate), "kept");
    }

    private static void readsBack() {
        String[] texts = {
            "http://a", "http:a.b?", "https://u@v:p@q@A%41:444/%2e/..//\\x y/?'`#`'", "ws://1.2.3/a/b/../..", "wss://[::1.2.3.4]:80",
            "ftp://:p@..:0/ %20%/", "http://a.b./\u00ff?\u0080#\u007f", "http://!$&'()*+,-;=_`{}~/|[]", "http://[1::]/.b/..b/...",
        };
        for (String text : texts) {
            UrlGate gate = new UrlGate();
            CHECK.due("read " + text, Check.read(gate, 0, UrlGate.NONE, text), 0);
            gate.write(0);
            CHECK.due("read back " + text, gate.read(1, UrlGate.NONE), 0);
            CHECK.due("written again " + text, Check.written(gate, 1), Check.written(gate, 0));
            for (int what = 0; what < 7; what++) {
                CHECK.due("part " + what + " of " + text, Check.part(gate, 1, what), Check.part(gate, 0, what));
            }
            for (int what = 0; what < 4; what++) {
                CHECK.due("told " + what + " of " + text, gate.told(1, what), gate.told(0, what));
            }
        }
    }
}
