/** Promise 4 and section 1: how a text is read. */
public final class ReadTest {
    private static final Check CHECK = new Check();
    private static final String BASE = "http://u:p@h.c:81/x/y/z?q#f";

    public static void main(String[] args) {
        ends();
        schemes();
        relative();
        relativeByScheme();
        authority();
        ports();
        orderOfFaults();
        paths();
        tails();
        escapes();
        places();
        onceMore();
        tooLong();
        CHECK.finish();
    }

    private static void reads(String base, String text, String want) {
        CHECK.due("'" + Check.shown(text) + "' by '" + base + "'", Check.readBy(base, text), want);
    }

    private static void fails(String base, String text, int fault) {
        reads(base, text, String.valueOf(fault));
    }

    private static void ends() {
        reads("", " \u0000\u001f\thttp://a/b \n\r\u0001 ", "http://a/b");
        reads("", "ht\ntp:\r/\t/a\n.b/c\td", "http://a.b/cd");
        reads("", "http://a/\u0001b", "http://a/%01b");
        reads("", "http://a/b c", "http://a/b%20c");
        reads("", "http://a/b!", "http://a/b!");
        reads(BASE, " \t\n ", "http://u:p@h.c:81/x/y/z?q");
        fails("", " \t\n ", UrlGate.NO_SCHEME);
        fails("", "!http://a", UrlGate.NO_SCHEME);
        reads(BASE, "!b! ", "http://u:p@h.c:81/x/y/!b!");
    }

    private static void schemes() {
        reads("", "HtTp://A", "http://a/");
        reads("", "ws://a", "ws://a/");
        reads("", "wss://a", "wss://a/");
        reads("", "HTTPS://a", "https://a/");
        reads("", "FTP://a", "ftp://a/");
        for (String text : new String[] {"mailto:a", "httpx://a", "htt://a", "file:///a", "h1+-.:", "a:", "Z:b", "ftps://a",
            "A:", "z:", "azAZ09:", "jttp://a", "htts://a", "vs://a", "w://a", "wt://a"}) {
            fails("", text, UrlGate.STRANGE);
            fails(BASE, text, UrlGate.STRANGE);
        }
        for (String text : new String[] {"", "a", "1http://a", "+a:", "//a", ":", "ht_tp://a", "http", "/a:b", "\u00e9:"}) {
            fails("", text, UrlGate.NO_SCHEME);
        }
        reads(BASE, "1http:b", "http://u:p@h.c:81/x/y/1http:b");
        reads(BASE, "ht_tp:b", "http://u:p@h.c:81/x/y/ht_tp:b");
        reads(BASE, ":", "http://u:p@h.c:81/x/y/:");
    }

    private static void relative() {
        reads(BASE, "", "http://u:p@h.c:81/x/y/z?q");
        reads(BASE, "#", "http://u:p@h.c:81/x/y/z?q#");
        reads(BASE, "#g", "http://u:p@h.c:81/x/y/z?q#g");
        reads(BASE, "?", "http://u:p@h.c:81/x/y/z?");
        reads(BASE, "?r", "http://u:p@h.c:81/x/y/z?r");
        reads(BASE, "?r#g", "http://u:p@h.c:81/x/y/z?r#g");
        reads(BASE, "w", "http://u:p@h.c:81/x/y/w");
        reads(BASE, "w/v?r", "http://u:p@h.c:81/x/y/w/v?r");
        reads(BASE, "../w", "http://u:p@h.c:81/x/w");
        reads(BASE, "..", "http://u:p@h.c:81/x/");
        reads(BASE, ".", "http://u:p@h.c:81/x/y/");
        reads(BASE, "../../../../w", "http://u:p@h.c:81/w");
        reads(BASE, "../../../..", "http://u:p@h.c:81/");
        reads(BASE, "/w", "http://u:p@h.c:81/w");
        reads(BASE, "\\w", "http://u:p@h.c:81/w");
        reads(BASE, "/", "http://u:p@h.c:81/");
        reads(BASE, "/?r", "http://u:p@h.c:81/?r");
        reads(BASE, "//b", "http://b/");
        reads(BASE, "\\/b:82/c", "http://b:82/c");
        reads(BASE, "/\\\\///b", "http://b/");
        reads("http://h", "?r", "http://h/?r");
        reads("http://h", "", "http://h/");
        reads("http://h", "w", "http://h/w");
        reads("ftp://b/a//b//", "c", "ftp://b/a//b//c");
        reads("ftp://b/a//b//", "../c", "ftp://b/a//b/c");
        reads("https://1.2.3.4", "a", "https://1.2.3.4/a");
        reads("ws://[::1]:1", "a", "ws://[::1]:1/a");
        fails(BASE, "//", UrlGate.NO_HOST);
        fails(BASE, "//u@", UrlGate.NO_HOST);
        fails(BASE, "//1.2.3.256", UrlGate.FOUR);
    }

    private static void relativeByScheme() {
        reads(BASE, "http:w", "http://u:p@h.c:81/x/y/w");
        reads(BASE, "HTTP:w", "http://u:p@h.c:81/x/y/w");
        reads(BASE, "http:", "http://u:p@h.c:81/x/y/z?q");
        reads(BASE, "http:?r", "http://u:p@h.c:81/x/y/z?r");
        reads(BASE, "http:#g", "http://u:p@h.c:81/x/y/z?q#g");
        reads(BASE, "http:/w", "http://u:p@h.c:81/w");
        reads(BASE, "http://w", "http://w/");
        reads(BASE, "http:/\\w", "http://w/");
        reads(BASE, "http:\\\\w", "http://w/");
        reads(BASE, "http:\\w", "http://u:p@h.c:81/w");
        reads(BASE, "https:w", "https://w/");
        reads(BASE, "https:/w/v", "https://w/v");
        reads(BASE, "ws:w", "ws://w/");
        fails(BASE, "http://", UrlGate.NO_HOST);
        fails(BASE, "https:", UrlGate.NO_HOST);
    }

    private static void authority() {
        reads("", "http:a.b", "http://a.b/");
        reads("", "http:\\/\\/a.b", "http://a.b/");
        reads("", "http://////a.b//c", "http://a.b//c");
        reads("", "http://@a", "http://a/");
        reads("", "http://:@a", "http://a/");
        reads("", "http://u@a", "http://u@a/");
        reads("", "http://u:@a", "http://u@a/");
        reads("", "http://:p@a", "http://:p@a/");
        reads("", "http://u:p@a:1", "http://u:p@a:1/");
        reads("", "http://u:p:q@a", "http://u:p%3Aq@a/");
        reads("", "http://u@v@a", "http://u%40v@a/");
        reads("", "http://u@v:p@q@a", "http://u%40v:p%40q@a/");
        reads("", "http://@@a", "http://%40@a/");
        reads("", "http://a/@b", "http://a/@b");
        reads("", "http://a?@b", "http://a/?@b");
        reads("", "http://a#@b", "http://a/#@b");
        reads("", "http://a\\@b", "http://a/@b");
        reads("", "http://u:[@a", "http://u:%5B@a/");
        fails("", "http:", UrlGate.NO_HOST);
        fails("", "http://", UrlGate.NO_HOST);
        fails("", "http:///", UrlGate.NO_HOST);
        fails("", "http://?a", UrlGate.NO_HOST);
        fails("", "http://#a", UrlGate.NO_HOST);
        fails("", "http://u@", UrlGate.NO_HOST);
        fails("", "http://u@/a", UrlGate.NO_HOST);
        fails("", "http://a@b@", UrlGate.NO_HOST);
        fails("", "http://:80", UrlGate.NO_HOST);
        fails("", "http://u@:80", UrlGate.NO_HOST);
        fails("", "http://:", UrlGate.NO_HOST);
    }

    private static void ports() {
        reads("", "http://a:", "http://a/");
        reads("", "http://a:80", "http://a/");
        reads("", "ws://a:80", "ws://a/");
        reads("", "https://a:443", "https://a/");
        reads("", "wss://a:443", "wss://a/");
        reads("", "ftp://a:21", "ftp://a/");
        reads("", "http://a:443", "http://a:443/");
        reads("", "https://a:80", "https://a:80/");
        reads("", "ftp://a:80", "ftp://a:80/");
        reads("", "http://a:0", "http://a:0/");
        reads("", "http://a:00000000000000000000081", "http://a:81/");
        reads("", "http://a:0000080", "http://a/");
        reads("", "http://a:65535", "http://a:65535/");
        reads("", "http://a:10009", "http://a:10009/");
        reads("", "http://a:1\t2", "http://a:12/");
        reads("", "http://[::1]:81", "http://[::1]:81/");
        fails("", "http://a:65536", UrlGate.PORT);
        fails("", "http://a:4294967376", UrlGate.PORT);
        fails("", "http://a:18446744073709551696", UrlGate.PORT);
        fails("", "http://a:8x", UrlGate.PORT);
        fails("", "http://a:x", UrlGate.PORT);
        fails("", "http://a:-1", UrlGate.PORT);
        fails("", "http://a:+1", UrlGate.PORT);
        fails("", "http://a: 1", UrlGate.PORT);
        fails("", "http://a:80:80", UrlGate.PORT);
        fails("", "http://a::", UrlGate.PORT);
        fails("", "http://[::1]:8]", UrlGate.PORT);
    }

    private static void orderOfFaults() {
        fails("", "http://:x", UrlGate.NO_HOST);
        fails("", "http://a%:x", UrlGate.WRONG);
        fails("", "http://256.256:x", UrlGate.FOUR);
        fails("", "http://[1]:x", UrlGate.SIX);
        fails("", "http://[::1:80", UrlGate.SIX);
        fails("", "http://[::1]a:80", UrlGate.SIX);
        fails("", "http://a[b:c]:80", UrlGate.WRONG);
        fails("", "http://]a:x", UrlGate.WRONG);
        fails("", "http://[]:x", UrlGate.SIX);
        fails("", "http://a[[b]:80", UrlGate.WRONG);
        fails("", "http://[a]:b]:c", UrlGate.SIX);
    }

    private static void paths() {
        reads("", "http://a", "http://a/");
        reads("", "http://a/", "http://a/");
        reads("", "http://a//", "http://a//");
        reads("", "http://a\\b\\c", "http://a/b/c");
        reads("", "http://a/b/", "http://a/b/");
        reads("", "http://a/.", "http://a/");
        reads("", "http://a/./", "http://a/");
        reads("", "http://a/b/.", "http://a/b/");
        reads("", "http://a/b/./c", "http://a/b/c");
        reads("", "http://a/..", "http://a/");
        reads("", "http://a/../", "http://a/");
        reads("", "http://a/b/..", "http://a/");
        reads("", "http://a/b/../", "http://a/");
        reads("", "http://a/b/c/..", "http://a/b/");
        reads("", "http://a/b/c\\..\\d", "http://a/b/d");
        reads("", "http://a/b//../c", "http://a/b/c");
        reads("", "http://a/b/..?q", "http://a/?q");
        reads("", "http://a/b/.#f", "http://a/b/#f");
        for (String two : new String[] {"..", ".%2e", ".%2E", "%2e.", "%2E.", "%2e%2e", "%2E%2e", "%2e%2E"}) {
            reads("", "http://a/b/" + two + "/c", "http://a/c");
            reads("", "http://a/b/c/" + two, "http://a/b/");
        }
        for (String one : new String[] {".", "%2e", "%2E"}) {
            reads("", "http://a/b/" + one + "/c", "http://a/b/c");
            reads("", "http://a/b/c/" + one, "http://a/b/c/");
        }
        for (String other : new String[] {"...", "%2e%2e%2e", ".%2", "%2", "%2f", "%2e%2", "..b", ".b", "b..", "%252e", "%2e%20"}) {
            reads("", "http://a/b/" + other + "/c", "http://a/b/" + other + "/c");
            reads("", "http://a/b/" + other, "http://a/b/" + other);
        }
    }

    private static void tails() {
        reads("", "http://a?", "http://a/?");
        reads("", "http://a#", "http://a/#");
        reads("", "http://a?#", "http://a/?#");
        reads("", "http://a?b?c/d\\e#f?g#h\\i", "http://a/?b?c/d\\e#f?g#h\\i");
        reads("", "http://a/..?../..#../..", "http://a/?../..#../..");
        reads("", "http://a#b?c", "http://a/#b?c");
    }

    /** Each byte in each part, by sets that are written out here once more. */
    private static void escapes() {
        for (int b = 33; b < 256; b++) {
            char c = (char) b;
            boolean all = b < 32 || b > 126;
            String byteText = String.valueOf(c);
            String escaped = String.format("%%%02X", b);
            if ("/\\?#".indexOf(c) < 0) {
                boolean inPath = all || "\"<>^`{}".indexOf(c) >= 0;
                reads("", "http://a/x" + c + "y", "http://a/x" + (inPath ? escaped : byteText) + "y");
                boolean inUser = inPath || ":;=@[]|".indexOf(c) >= 0;
                reads("", "http://u:x" + c + "y@a", "http://u:x" + (inUser ? escaped : byteText) + "y@a/");
                if (c != ':') {
                    reads("", "http://x" + c + "y@a", "http://x" + (inUser ? escaped : byteText) + "y@a/");
                }
            }
            if (c != '#') {
                boolean inQuery = all || "\"<>'".indexOf(c) >= 0;
                reads("", "http://a?x" + c + "y", "http://a/?x" + (inQuery ? escaped : byteText) + "y");
            }
            boolean inFragment = all || "\"<>`".indexOf(c) >= 0;
            reads("", "http://a#x" + c + "y", "http://a/#x" + (inFragment ? escaped : byteText) + "y");
        }
        for (int b = 0; b <= 32; b++) {
            boolean gone = b == 9 || b == 10 || b == 13;
            String in = "x" + (char) b + "y";
            String out = gone ? "xy" : String.format("x%%%02Xy", b);
            reads("", "http://" + in + ":" + in + "@a/" + in + "?" + in + "#" + in,
                "http://" + out + ":" + out + "@a/" + out + "?" + out + "#" + out);
        }
    }

    private static void places() {
        UrlGate gate = new UrlGate();
        Check.type(gate, "http://a/b");
        int[] bad = {-1, -2, 4, Integer.MAX_VALUE, Integer.MIN_VALUE};
        for (int place : bad) {
            CHECK.due("read(" + place + ", NONE)", gate.read(place, UrlGate.NONE), UrlGate.BAD);
        }
        for (int base : new int[] {-2, 0, 1, 3, 4, Integer.MAX_VALUE, Integer.MIN_VALUE}) {
            CHECK.due("read(0, " + base + ")", gate.read(0, base), UrlGate.BAD);
        }
        CHECK.due("the text stays", Check.text(gate), "http://a/b");
        CHECK.due("read(3, NONE)", gate.read(3, UrlGate.NONE), 0);
        CHECK.due("the text is empty", gate.erase(), 0);
        CHECK.due("read(3, 3)", Check.read(gate, 3, 3, "c/d"), 0);
        CHECK.due("the same place", Check.written(gate, 3), "http://a/c/d");
        CHECK.due("read(0, 3)", Check.read(gate, 0, 3, "../e"), 0);
        CHECK.due("another place", Check.written(gate, 0), "http://a/e");
        CHECK.due("the base stays", Check.written(gate, 3), "http://a/c/d");
        CHECK.due("a fault", Check.read(gate, 3, 3, "http://a:x"), UrlGate.PORT);
        CHECK.due("the text is empty behind a fault", gate.erase(), 0);
        CHECK.due("the place stays", Check.written(gate, 3), "http://a/c/d");
        CHECK.due("it can be a base", Check.read(gate, 1, 3, "?q"), 0);
        CHECK.due("by it", Check.written(gate, 1), "http://a/c/d?q");
        CHECK.due("read once more", Check.read(gate, 1, UrlGate.NONE, "ws://z"), 0);
        CHECK.due("no rest of the old one", Check.written(gate, 1), "ws://z/");
        CHECK.due("place 2", gate.size(2, 0), UrlGate.BAD);
    }

    /** Nothing of an older RECORD is left in a place, whatever was read before. */
    private static void onceMore() {
        String[] texts = {"ws://uu:pp@[1:2:3:4:5:6:7:8]:99/ss/tt?qq#ff", "http://a/?q#f", "http://u@b", "https://:p@1.2.3.4/#g", "ftp://c:1?r"};
        String[] want = {texts[0], texts[1], "http://u@b/", texts[3], "ftp://c:1/?r"};
        int n = texts.length;
        for (int row = 0; row < n * n * n; row++) {
            UrlGate gate = new UrlGate();
            for (int k : new int[] {row / n / n, row / n % n, row % n}) {
                CHECK.due("read " + texts[k], Check.read(gate, 0, UrlGate.NONE, texts[k]), 0);
                CHECK.due("read " + texts[k], Check.written(gate, 0), want[k]);
            }
            for (int i = 0; i < 5; i++) {
                Check.read(gate, 0, 0, i % 2 == 0 ? "?q" + i + "#f" + i : "#g" + i);
            }
            CHECK.due("by itself", Check.written(gate, 0), Check.readBy(want[row % n], "?q4#f4"));
        }
    }

    /** A row of reads by the same place, until it is WRITTEN with just 1000 bytes. */
    private static void tooLong() {
        UrlGate gate = new UrlGate();
        Check.read(gate, 0, UrlGate.NONE, "http://a/");
        String part = "b".repeat(199) + "/";
        for (int i = 0; i < 4; i++) {
            CHECK.due("a longer path", Check.read(gate, 0, 0, part), 0);
        }
        CHECK.due("PATH", gate.size(0, 4), 801);
        CHECK.due("1001 bytes", Check.read(gate, 0, 0, "c".repeat(192)), UrlGate.FULL);
        CHECK.due("the text is empty", gate.erase(), 0);
        CHECK.due("PATH stays", gate.size(0, 4), 801);
        CHECK.due("1000 bytes", Check.read(gate, 1, 0, "c".repeat(191)), 0);
        CHECK.due("PATH with 1000", gate.size(1, 4), 992);
        CHECK.due("# for none", Check.read(gate, 2, 1, "#"), UrlGate.FULL);
        CHECK.due("1000 by ?", Check.read(gate, 2, 0, "?" + "c".repeat(190)), 0);
        CHECK.due("1001 by ?", Check.read(gate, 2, 0, "?" + "c".repeat(191)), UrlGate.FULL);
        CHECK.due("QUERY stays", gate.size(2, 5), 190);
        CHECK.due("escaped bytes", Check.read(gate, 3, 0, "^".repeat(64)), UrlGate.FULL);
        CHECK.due("escaped bytes", Check.read(gate, 3, 0, "^".repeat(63)), 0);
        CHECK.due("the longest of all", Check.read(gate, 3, 1, "#" + "^`".repeat(149)), UrlGate.FULL);
        CHECK.due("a longer one between", Check.read(gate, 3, 1, "^".repeat(297) + "/.."), 0);
        CHECK.due("it goes again", gate.size(3, 4), 801);
        CHECK.due("other faults before", Check.read(gate, 3, 1, "//b:x" + "c".repeat(280)), UrlGate.PORT);
    }
}
