/** Promise 16 and section 4: what the gate lets through. */
public final class PassTest {
    private static final Check CHECK = new Check();

    public static void main(String[] args) {
        schemesAndUsers();
        orderOfAnswers();
        addresses();
        namesAndAnswers();
        wrongPlaces();
        nothingChanges();
        CHECK.finish();
    }

    private static UrlGate gate() {
        UrlGate gate = new UrlGate();
        Check.list(gate, "ok.com", true);
        Check.list(gate, "10.0.0.1", false);
        Check.list(gate, "11.0.0.1", false);
        Check.list(gate, "[fd00::1]", false);
        Check.list(gate, "[fe00::1]", false);
        Check.resolveFour(gate, "ok.com", 0x0a000001);
        Check.resolveFour(gate, "both.ok.com", 0x0a000002);
        Check.resolveSix(gate, "both.ok.com", 0xfd000000, 0, 0, 9);
        Check.resolveFour(gate, "mixed.ok.com", 0x0a000003);
        Check.resolveFour(gate, "mixed.ok.com", 0x7f000001);
        Check.resolveFour(gate, "mixed2.ok.com", 0x7f000001);
        Check.resolveFour(gate, "mixed2.ok.com", 0x0a000003);
        Check.resolveSix(gate, "mapped.ok.com", 0, 0, 0xffff, 0x0a000004);
        Check.resolveSix(gate, "outmapped.ok.com", 0, 0, 0xffff, 0x7f000001);
        Check.resolveFour(gate, "other.com", 0x0a000001);
        gate.range(4, 0x0a000000, 0, 0, 0, 8);
        gate.range(6, 0xfd000000, 0, 0, 0, 8);
        return gate;
    }

    private static void passes(UrlGate gate, String text, int want) {
        CHECK.due("read of " + text, Check.read(gate, 2, UrlGate.NONE, text), 0);
        CHECK.due("pass of " + text, gate.pass(2), want);
    }

    private static void schemesAndUsers() {
        UrlGate gate = gate();
        passes(gate, "http://ok.com/a?b#c", 0);
        passes(gate, "HTTPS://OK.com:8080", 0);
        passes(gate, "ws://ok.com", 1);
        passes(gate, "wss://ok.com", 1);
        passes(gate, "ftp://ok.com", 1);
        passes(gate, "http://u@ok.com", 2);
        passes(gate, "http://:p@ok.com", 2);
        passes(gate, "http://u:p@ok.com", 2);
        passes(gate, "http://:@ok.com", 0);
        passes(gate, "http://@ok.com", 0);
    }

    private static void orderOfAnswers() {
        UrlGate gate = gate();
        passes(gate, "ftp://u@no.com", 1);
        passes(gate, "http://u@no.com", 2);
        passes(gate, "http://no.com", 3);
        passes(gate, "http://other.com", 3);
        passes(gate, "http://127.0.0.1", 3);
        passes(gate, "http://x.ok.com", 4);
        passes(gate, "http://mixed.ok.com", 5);
    }

    private static void addresses() {
        UrlGate gate = gate();
        passes(gate, "http://10.0.0.1", 0);
        passes(gate, "http://0xa000001:81/", 0);
        passes(gate, "http://10.1", 0);
        passes(gate, "http://11.0.0.1", 5);
        passes(gate, "http://10.0.0.2", 3);
        passes(gate, "http://[fd00::1]", 0);
        passes(gate, "http://[fd00:0::1]", 0);
        passes(gate, "http://[fe00::1]", 5);
        passes(gate, "http://[::ffff:10.0.0.1]", 3);
    }

    private static void namesAndAnswers() {
        UrlGate gate = gate();
        passes(gate, "http://both.ok.com", 0);
        passes(gate, "http://mixed.ok.com", 5);
        passes(gate, "http://mixed2.ok.com", 5);
        passes(gate, "http://mapped.ok.com", 0);
        passes(gate, "http://outmapped.ok.com", 5);
        passes(gate, "http://ok.com.", 3);
        passes(gate, "http://notok.com", 3);
        gate.range(4, 0x7f000001, 0, 0, 0, 32);
        passes(gate, "http://mixed.ok.com", 0);
        passes(gate, "http://outmapped.ok.com", 0);
        Check.resolveFour(gate, "ok.com", 0x08080808);
        passes(gate, "http://ok.com", 5);
    }

    private static void wrongPlaces() {
        UrlGate gate = gate();
        Check.read(gate, 0, UrlGate.NONE, "http://ok.com");
        for (int place : new int[] {1, 2, 3, 4, -1, Integer.MAX_VALUE, Integer.MIN_VALUE}) {
            CHECK.due("pass(" + place + ")", gate.pass(place), UrlGate.BAD);
        }
        CHECK.due("pass(0)", gate.pass(0), 0);
    }

    private static void nothingChanges() {
        UrlGate gate = gate();
        Check.read(gate, 0, UrlGate.NONE, "http://ok.com");
        Check.type(gate, "kept");
        CHECK.due("pass(0)", gate.pass(0), 0);
        CHECK.due("pass(0) again", gate.pass(0), 0);
        CHECK.due("the text", Check.text(gate), "kept");
        CHECK.due("all that is listed", gate.clear(), 5 + 10 + 2);
    }
}
