/** Promise 11: ONE ORIGIN. */
public final class SameTest {
    private static final Check CHECK = new Check();

    public static void main(String[] args) {
        origins("http://a", "http://a", 1);
        origins("http://a/b?c#d", "http://u:p@A:80/e", 1);
        origins("https://a:443", "https://a", 1);
        origins("http://a:81", "http://a:0081/x", 1);
        origins("http://a", "https://a", 0);
        origins("http://a", "ws://a", 0);
        origins("https://a", "wss://a", 0);
        origins("http://a:443", "https://a:443", 0);
        origins("http://a", "http://a:81", 0);
        origins("http://a:82", "http://a:81", 0);
        origins("http://a:0", "http://a", 0);
        origins("http://a", "http://b", 0);
        origins("http://a", "http://a.", 0);
        origins("http://a", "http://aa", 0);
        origins("http://a.b", "http://b", 0);
        origins("http://1.2.3.4", "http://0x1020304", 1);
        origins("http://1.2.3.4", "http://1.2.3.5", 0);
        origins("http://[::1]", "http://[0:0:0:0:0:0:0.0.0.1]", 1);
        origins("http://[::1]", "http://[::2]", 0);
        origins("http://[::ffff:1.2.3.4]", "http://1.2.3.4", 0);
        wrongPlaces();
        CHECK.finish();
    }

    private static void origins(String one, String other, int want) {
        UrlGate gate = new UrlGate();
        Check.read(gate, 0, UrlGate.NONE, one);
        Check.read(gate, 3, UrlGate.NONE, other);
        CHECK.due(one + " and " + other, gate.same(0, 3), want);
        CHECK.due(other + " and " + one, gate.same(3, 0), want);
        CHECK.due(one + " and itself", gate.same(0, 0), 1);
    }

    private static void wrongPlaces() {
        UrlGate gate = new UrlGate();
        Check.read(gate, 1, UrlGate.NONE, "http://a");
        for (int place : new int[] {0, 2, 3, 4, -1, Integer.MAX_VALUE, Integer.MIN_VALUE}) {
            CHECK.due("same(1, " + place + ")", gate.same(1, place), UrlGate.BAD);
            CHECK.due("same(" + place + ", 1)", gate.same(place, 1), UrlGate.BAD);
            CHECK.due("same(" + place + ", itself)", gate.same(place, place), UrlGate.BAD);
        }
    }
}
