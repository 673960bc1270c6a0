/** The edges that section 1 (READING) names: a method for each sentence, which stands above it. */
public final class EdgesOfReadingTest {
    private static final Check CHECK = new Check();
    private static final String BASE = "http://u:p@h.c:81/x/y?q#f";
    private static final String[] OWN = {"http", "ws", "https", "wss", "ftp"};
    private static final int[] OWN_PORTS = {80, 80, 443, 443, 21};

    public static void main(String[] args) {
        bothEnds();
        bytesWithin();
        firstByteOfAScheme();
        otherBytesOfAScheme();
        noSchemeAtAll();
        schemesBesideTheFive();
        theSchemeOfTheBase();
        relativeAtEachByte();
        relativeWithoutMuchPath();
        slashesPassedOver();
        endOfTheAuthority();
        theLastSignAndTheFirstColon();
        noHost();
        noHostBeforeOthers();
        colonsInBrackets();
        portNumbers();
        portDigits();
        portsOfSchemes();
        portWithoutDigits();
        portWithOtherBytes();
        hostsFaultsBeforePort();
        segmentsWithoutBytes();
        twoPoints();
        twoPointsWithNothingBefore();
        onePoint();
        otherPoints();
        queriesAndFragments();
        CHECK.finish();
    }

    private static void reads(String base, String text, String want) {
        CHECK.due("'" + Check.shown(text) + "' by '" + base + "'", Check.readBy(base, text), want);
    }

    private static void fails(String base, String text, int fault) {
        reads(base, text, String.valueOf(fault));
    }

    /** "First all bytes 0 .. 32 at both ends of THE TEXT go" - 33, 127 and 255 do not. */
    private static void bothEnds() {
        for (int b = 0; b <= 32; b++) {
            String one = String.valueOf((char) b);
            reads("", one + "http://a/b" + one, "http://a/b");
            reads("", one + one + "http://a/b" + one + one, "http://a/b");
            reads("http://a/x", one, "http://a/x");
        }
        for (int b : new int[] {33, 127, 128, 160, 255}) {
            String one = String.valueOf((char) b);
            fails("", one + "http://a/b", UrlGate.NO_SCHEME);
            reads("", "http://a/b" + one, "http://a/b" + (b == 33 ? "!" : String.format("%%%02X", b)));
        }
        fails("", " ".repeat(300), UrlGate.NO_SCHEME);
        reads("", " ".repeat(145) + "http://a/b" + " ".repeat(145), "http://a/b");
    }

    /** "then all 9, 10, 13 in it" - no others. */
    private static void bytesWithin() {
        for (int b = 0; b <= 32; b++) {
            String one = String.valueOf((char) b);
            boolean goes = b == 9 || b == 10 || b == 13;
            reads("", "http://a/b" + one + "c", "http://a/b" + (goes ? "" : String.format("%%%02X", b)) + "c");
            reads("", "http:/" + one + "/a", goes ? "http://a/" : String.valueOf(UrlGate.WRONG));
            reads("", "ht" + one + "tp://a", goes ? "http://a/" : String.valueOf(UrlGate.NO_SCHEME));
            reads("", "http://a:8" + one + "1", goes ? "http://a:81/" : String.valueOf(UrlGate.PORT));
            reads("", "http://a/b/." + one + "./c", goes ? "http://a/c" : "http://a/b/." + String.format("%%%02X", b) + "./c");
        }
    }

    /** "A LETTER" - STRANGE: it has a SCHEME; NO_SCHEME: it has none. */
    private static void firstByteOfAScheme() {
        for (int b = 33; b < 256; b++) {
            boolean letter = (b >= 'a' && b <= 'z') || (b >= 'A' && b <= 'Z');
            fails("", (char) b + ":", letter ? UrlGate.STRANGE : UrlGate.NO_SCHEME);
            fails("", (char) b + "x:", letter ? UrlGate.STRANGE : UrlGate.NO_SCHEME);
        }
    }

    /** "then LETTERS, digits, + - . , then :" */
    private static void otherBytesOfAScheme() {
        for (int b = 33; b < 256; b++) {
            boolean letter = (b >= 'a' && b <= 'z') || (b >= 'A' && b <= 'Z');
            boolean right = letter || (b >= '0' && b <= '9') || "+-.:".indexOf((char) b) >= 0;
            fails("", "x" + (char) b + ":", right ? UrlGate.STRANGE : UrlGate.NO_SCHEME);
            fails("", "x" + (char) b + "y:", right ? UrlGate.STRANGE : UrlGate.NO_SCHEME);
        }
    }

    /** "If it does not begin so: with a BASE RELATIVE from the first byte on, with its SCHEME; without NO_SCHEME." */
    private static void noSchemeAtAll() {
        for (String text : new String[] {"http", "a", "a/b:c", "1:", "-:", "b c:d"}) {
            fails("", text, UrlGate.NO_SCHEME);
        }
        reads("ws://h/x/y", "http", "ws://h/x/http");
        reads("ws://h/x/y", "1:", "ws://h/x/1:");
        reads("ws://h/x/y", "a/b:c", "ws://h/x/a/b:c");
        reads("ws://h/x/y", "//k", "ws://k/");
        reads("ftp://h/x/y", "//k:21", "ftp://k/");
        reads("ws://h/x/y", "//k:21", "ws://k:21/");
    }

    /** "A SCHEME that is none of the five: STRANGE." */
    private static void schemesBesideTheFive() {
        for (String scheme : OWN) {
            reads("", scheme + "://a", scheme + "://a/");
            reads("", scheme.toUpperCase() + "://a", scheme + "://a/");
            fails("", scheme.substring(1) + "://a", UrlGate.STRANGE);
            fails("", "x" + scheme + "://a", UrlGate.STRANGE);
            fails("", scheme + "x://a", UrlGate.STRANGE);
            fails(BASE, scheme + "x://a", UrlGate.STRANGE);
            fails("", scheme + ".://a", UrlGate.STRANGE);
        }
        fails("", "htt://a", UrlGate.STRANGE);
        fails("", "w://a", UrlGate.STRANGE);
        fails("", "ft://a", UrlGate.STRANGE);
        fails("", "wsss://a", UrlGate.STRANGE);
        fails("", "httpss://a", UrlGate.STRANGE);
    }

    /** "If it is the BASE's, and not // is behind the : , RELATIVE from there; else SLASHES." */
    private static void theSchemeOfTheBase() {
        for (String scheme : OWN) {
            String base = scheme + "://h:9/x/y";
            reads(base, scheme + ":z", scheme + "://h:9/x/z");
            reads(base, scheme.toUpperCase() + ":z", scheme + "://h:9/x/z");
            reads(base, scheme + ":", scheme + "://h:9/x/y");
            reads(base, scheme + ":/z", scheme + "://h:9/z");
            reads(base, scheme + ":\\z", scheme + "://h:9/z");
            reads(base, scheme + "://z", scheme + "://z/");
            reads(base, scheme + ":/\\z", scheme + "://z/");
            reads(base, scheme + ":\\/z", scheme + "://z/");
            reads(base, scheme + ":///z", scheme + "://z/");
            fails(base, scheme + "://", UrlGate.NO_HOST);
            for (String other : OWN) {
                if (!other.equals(scheme)) {
                    reads(base, other + ":z", other + "://z/");
                    reads(base, other + ":/z", other + "://z/");
                    fails(base, other + ":", UrlGate.NO_HOST);
                }
            }
        }
    }

    /** "RELATIVE. At / or \ .. at ? QUERY, at # FRAGMENT, at END it is over; else .." */
    private static void relativeAtEachByte() {
        reads(BASE, "", "http://u:p@h.c:81/x/y?q");
        reads(BASE, "#", "http://u:p@h.c:81/x/y?q#");
        reads(BASE, "#g", "http://u:p@h.c:81/x/y?q#g");
        reads(BASE, "?", "http://u:p@h.c:81/x/y?");
        reads(BASE, "?#", "http://u:p@h.c:81/x/y?#");
        reads(BASE, "?r", "http://u:p@h.c:81/x/y?r");
        reads(BASE, "/", "http://u:p@h.c:81/");
        reads(BASE, "\\", "http://u:p@h.c:81/");
        reads(BASE, "/?", "http://u:p@h.c:81/?");
        reads(BASE, "\\#", "http://u:p@h.c:81/#");
        reads(BASE, "/z", "http://u:p@h.c:81/z");
        reads(BASE, "z", "http://u:p@h.c:81/x/z");
        reads(BASE, "z?", "http://u:p@h.c:81/x/z?");
        reads(BASE, "z#", "http://u:p@h.c:81/x/z#");
        reads(BASE, "z/", "http://u:p@h.c:81/x/z/");
        reads(BASE, "@z:1", "http://u:p@h.c:81/x/@z:1");
        reads(BASE, "./", "http://u:p@h.c:81/x/");
        reads(BASE, ".", "http://u:p@h.c:81/x/");
        fails(BASE, "//", UrlGate.NO_HOST);
        fails(BASE, "/\\", UrlGate.NO_HOST);
        reads(BASE, "//k", "http://k/");
        reads(BASE, "//v:w@k", "http://v:w@k/");
        reads("http://h", "", "http://h/");
        reads("http://h#f", "", "http://h/");
        reads("http://h?", "", "http://h/?");
        reads("http://h?", "#", "http://h/?#");
    }

    /** "the PATH'S last SEGMENT (if it has one) goes, and PATH from here on (as if a / were before it)" */
    private static void relativeWithoutMuchPath() {
        reads("http://h", "z", "http://h/z");
        reads("http://h/", "z", "http://h/z");
        reads("http://h/x", "z", "http://h/z");
        reads("http://h/x/", "z", "http://h/x/z");
        reads("http://h//", "z", "http://h//z");
        reads("http://h/x", "..", "http://h/");
        reads("http://h/x", "../..", "http://h/");
        reads("http://h/x/y", "..", "http://h/");
        reads("http://h/x/y/", "..", "http://h/x/");
        reads("http://h/x/y", "../z", "http://h/z");
        reads("http://h/x/y", "../../z", "http://h/z");
        reads("http://h/x/y", ".//z", "http://h/x//z");
        reads("http://h/x/y", "../", "http://h/");
    }

    /** "SLASHES. All / and \ here are passed over" - none, one, and many. */
    private static void slashesPassedOver() {
        for (String slashes : new String[] {"", "/", "\\", "//", "\\\\", "/\\", "///", "\\/\\/\\/", "/".repeat(200)}) {
            reads("", "http:" + slashes + "a/b", "http://a/b");
            fails("", "http:" + slashes, UrlGate.NO_HOST);
            fails("", "http:" + slashes + "?", UrlGate.NO_HOST);
        }
    }

    /** "then AUTHORITY goes up to the first / \ ? # or END" */
    private static void endOfTheAuthority() {
        reads("", "http://u:p@a:81", "http://u:p@a:81/");
        reads("", "http://u:p@a:81/@b:82", "http://u:p@a:81/@b:82");
        reads("", "http://u:p@a:81\\@b:82", "http://u:p@a:81/@b:82");
        reads("", "http://u:p@a:81?@b:82", "http://u:p@a:81/?@b:82");
        reads("", "http://u:p@a:81#@b:82", "http://u:p@a:81/#@b:82");
        reads("", "http://u/p@a", "http://u/p@a");
    }

    /** "what is before the last one is USER, and behind its first : (if it has one) PASSWORD" */
    private static void theLastSignAndTheFirstColon() {
        reads("", "http://@a", "http://a/");
        reads("", "http://:@a", "http://a/");
        reads("", "http://u@a", "http://u@a/");
        reads("", "http://u:@a", "http://u@a/");
        reads("", "http://:p@a", "http://:p@a/");
        reads("", "http://::@a", "http://:%3A@a/");
        reads("", "http://:::@a", "http://:%3A%3A@a/");
        reads("", "http://@@a", "http://%40@a/");
        reads("", "http://@:@@a", "http://%40:%40@a/");
        reads("", "http://u:p@q:r@a:1", "http://u:p%40q%3Ar@a:1/");
        reads("", "http://[u]:[p]@a", "http://%5Bu%5D:%5Bp%5D@a/");
        reads("", "http://%:%40@a", "http://%:%40@a/");
    }

    /** "if nothing is behind that @: NO_HOST"; "HOST up to the first : ..; without bytes: NO_HOST" */
    private static void noHost() {
        for (String end : new String[] {"", "/", "\\", "?", "#", "/b"}) {
            fails("", "http://u@" + end, UrlGate.NO_HOST);
            fails("", "http://@" + end, UrlGate.NO_HOST);
            fails("", "http://a@@" + end, UrlGate.NO_HOST);
            fails("", "http://:" + end, UrlGate.NO_HOST);
            fails("", "http://:80" + end, UrlGate.NO_HOST);
            fails("", "http://u:p@:80" + end, UrlGate.NO_HOST);
            fails(BASE, "//:80" + end, UrlGate.NO_HOST);
        }
        fails("", "http:", UrlGate.NO_HOST);
        fails("", "http:?", UrlGate.NO_HOST);
        fails("", "http:#", UrlGate.NO_HOST);
    }

    /** "(NO_HOST is seen before HOST's faults ..)" - and before PORT. */
    private static void noHostBeforeOthers() {
        fails("", "http://:x", UrlGate.NO_HOST);
        fails("", "http://:65536", UrlGate.NO_HOST);
        fails("", "http://u@:x", UrlGate.NO_HOST);
        fails("", "http://%@:x", UrlGate.NO_HOST);
        fails("", "http://::1]", UrlGate.NO_HOST);
        fails("", "x://:x", UrlGate.STRANGE);
    }

    /** "the first : that is not between [ and ] (each [ opens, each ] closes, whatever was before)" */
    private static void colonsInBrackets() {
        reads("", "http://[::1]:81", "http://[::1]:81/");
        reads("", "http://[::1]", "http://[::1]/");
        reads("", "http://[::1]:", "http://[::1]/");
        fails("", "http://[::1:81", UrlGate.SIX);
        fails("", "http://[[::1]:x", UrlGate.SIX);
        fails("", "http://[::1]]:x", UrlGate.SIX);
        fails("", "http://[::1]:[x", UrlGate.PORT);
        fails("", "http://a[:81", UrlGate.WRONG);
        fails("", "http://a[:]:81", UrlGate.WRONG);
        fails("", "http://a]:81", UrlGate.WRONG);
        fails("", "http://]:81", UrlGate.WRONG);
        fails("", "http://b:[::1]", UrlGate.PORT);
        reads("", "http://[u@a:81", "http://%5Bu@a:81/");
        reads("", "http://]u[@a:81", "http://%5Du%5B@a:81/");
    }

    /** "more than 65535: PORT" */
    private static void portNumbers() {
        reads("", "http://a:0", "http://a:0/");
        reads("", "http://a:1", "http://a:1/");
        reads("", "http://a:9", "http://a:9/");
        reads("", "http://a:65534", "http://a:65534/");
        reads("", "http://a:65535", "http://a:65535/");
        fails("", "http://a:65536", UrlGate.PORT);
        fails("", "http://a:65537", UrlGate.PORT);
        fails("", "http://a:65616", UrlGate.PORT);
        fails("", "http://a:99999", UrlGate.PORT);
        fails("", "http://a:655350", UrlGate.PORT);
        reads("", "http://a:" + "0".repeat(200) + "65535", "http://a:65535/");
        fails("", "http://a:" + "0".repeat(200) + "65536", UrlGate.PORT);
        reads("", "http://a:" + "0".repeat(200), "http://a:0/");
        fails("", "http://a:4294967296", UrlGate.PORT);
        fails("", "http://a:4294967377", UrlGate.PORT);
        fails("", "http://a:18446744073709551617", UrlGate.PORT);
        fails("", "http://a:" + "9".repeat(200), UrlGate.PORT);
    }

    /** "if there is a PORT : and it" - with just the digits that it needs. */
    private static void portDigits() {
        for (int ten = 1; ten <= 10000; ten *= 10) {
            for (int n = 1; n <= 9; n++) {
                for (int port : new int[] {n * ten - 1, n * ten, n * ten + 1}) {
                    String want = port > 65535 ? String.valueOf(UrlGate.PORT) : port == 80 ? "http://a/" : "http://a:" + port + "/";
                    reads("", "http://a:" + port, want);
                }
            }
        }
    }

    /** "the SCHEME'S own: none" */
    private static void portsOfSchemes() {
        for (int i = 0; i < OWN.length; i++) {
            int own = OWN_PORTS[i];
            reads("", OWN[i] + "://a:" + own, OWN[i] + "://a/");
            reads("", OWN[i] + "://a:000" + own + "?", OWN[i] + "://a/?");
            for (int other : new int[] {own - 1, own + 1, own == 80 ? 443 : 80, own == 21 ? 22 : 21}) {
                reads("", OWN[i] + "://a:" + other, OWN[i] + "://a:" + other + "/");
            }
            UrlGate gate = new UrlGate();
            Check.read(gate, 0, UrlGate.NONE, OWN[i] + "://a:" + own);
            CHECK.due("no PORT of " + OWN[i], gate.told(0, 0), UrlGate.NONE);
            CHECK.due("the PORT that counts of " + OWN[i], gate.told(0, 1), own);
        }
    }

    /** "without digits none" */
    private static void portWithoutDigits() {
        for (String end : new String[] {"", "/", "\\", "?", "#"}) {
            String tail = end.equals("?") || end.equals("#") ? end : "";
            reads("", "http://a:" + end, "http://a/" + tail);
            reads("", "http://u@[::1]:" + end, "http://u@[::1]/" + tail);
        }
        UrlGate gate = new UrlGate();
        Check.read(gate, 0, UrlGate.NONE, "http://a:");
        CHECK.due("no PORT", gate.told(0, 0), UrlGate.NONE);
        CHECK.due("the one that counts", gate.told(0, 1), 80);
    }

    /** "digits alone up to the AUTHORITY'S end (other bytes: PORT)" */
    private static void portWithOtherBytes() {
        for (int b = 33; b < 256; b++) {
            char c = (char) b;
            if ("/\\?#@".indexOf(c) >= 0) {
                continue;
            }
            boolean digit = c >= '0' && c <= '9';
            reads("", "http://a:" + c, digit ? "http://a:" + c + "/" : String.valueOf(UrlGate.PORT));
            reads("", "http://a:8" + c, digit && c != '0' ? "http://a:8" + c + "/" : digit ? "http://a/" : String.valueOf(UrlGate.PORT));
            reads("", "http://a:" + c + "9", c == '0' ? "http://a:9/" : digit ? "http://a:" + c + "9/" : String.valueOf(UrlGate.PORT));
        }
        fails("", "http://a:65536x", UrlGate.PORT);
        fails("", "http://a:80 /", UrlGate.PORT);
    }

    /** "these before PORT" */
    private static void hostsFaultsBeforePort() {
        for (String port : new String[] {":x", ":65536", "::"}) {
            fails("", "http://a%" + port, UrlGate.WRONG);
            fails("", "http://xn--a" + port, UrlGate.WRONG);
            fails("", "http://1.2.3.256" + port, UrlGate.FOUR);
            fails("", "http://[::g]" + port, UrlGate.SIX);
            fails("", "http://a" + port, UrlGate.PORT);
        }
    }

    /** "(A PATH has one SEGMENT at least.)" */
    private static void segmentsWithoutBytes() {
        String[] texts = {"", "/", "?", "#", "//", "///", "/b/", "/b//", "/b", "\\", "\\/"};
        int[] wants = {1, 1, 1, 1, 2, 3, 2, 3, 1, 1, 2};
        for (int i = 0; i < texts.length; i++) {
            UrlGate gate = new UrlGate();
            Check.read(gate, 0, UrlGate.NONE, "http://a" + texts[i]);
            CHECK.due("SEGMENTS of " + texts[i], gate.told(0, 3), wants[i]);
        }
        reads("", "http://a///", "http://a///");
        reads("", "http://a\\/b\\", "http://a//b/");
    }

    private static final String[] TWO = {"..", ".%2e", ".%2E", "%2e.", "%2E.", "%2e%2e", "%2e%2E", "%2E%2e", "%2E%2E"};

    /** "the last SEGMENT before goes .. and, unless / or \ is behind it, one without bytes comes" */
    private static void twoPoints() {
        for (String two : TWO) {
            reads("", "http://a/b/" + two, "http://a/");
            reads("", "http://a/b/" + two + "/", "http://a/");
            reads("", "http://a/b/" + two + "\\", "http://a/");
            reads("", "http://a/b/" + two + "?q", "http://a/?q");
            reads("", "http://a/b/" + two + "#f", "http://a/#f");
            reads("", "http://a/b/" + two + "/c", "http://a/c");
            reads("", "http://a/b/c/" + two, "http://a/b/");
            reads("", "http://a/b/c/" + two + "/", "http://a/b/");
            reads("", "http://a/b/c/" + two + "/" + two + "/d", "http://a/d");
            reads("", "http://a/b//" + two + "/c", "http://a/b/c");
            reads("http://a/b/c", two, "http://a/");
            reads("http://a/b/c/", two, "http://a/b/");
        }
    }

    /** "the last SEGMENT before goes, if there is one" */
    private static void twoPointsWithNothingBefore() {
        for (String two : TWO) {
            reads("", "http://a/" + two, "http://a/");
            reads("", "http://a/" + two + "/", "http://a/");
            reads("", "http://a/" + two + "/" + two, "http://a/");
            reads("", "http://a/" + two + "/" + two + "/b", "http://a/b");
            reads("", "http://a/b/" + two + "/" + two + "/" + two + "/c", "http://a/c");
            reads("", "http://a\\" + two + "?q", "http://a/?q");
            reads("http://a", two, "http://a/");
            reads("http://a/b", two + "/" + two + "/c", "http://a/c");
            UrlGate gate = new UrlGate();
            Check.read(gate, 0, UrlGate.NONE, "http://a/" + two + "/" + two);
            CHECK.due("one SEGMENT", gate.told(0, 3), 1);
        }
    }

    /** "one that is . (or %2e, %2E): nothing, but, unless / or \ is behind it, one without bytes comes" */
    private static void onePoint() {
        for (String one : new String[] {".", "%2e", "%2E"}) {
            reads("", "http://a/" + one, "http://a/");
            reads("", "http://a/" + one + "/", "http://a/");
            reads("", "http://a/b/" + one, "http://a/b/");
            reads("", "http://a/b/" + one + "/", "http://a/b/");
            reads("", "http://a/b/" + one + "\\", "http://a/b/");
            reads("", "http://a/b/" + one + "?", "http://a/b/?");
            reads("", "http://a/b/" + one + "#", "http://a/b/#");
            reads("", "http://a/b/" + one + "/c", "http://a/b/c");
            reads("", "http://a/" + one + "/" + one + "/" + one, "http://a/");
            reads("http://a/b/c", one, "http://a/b/");
        }
    }

    /** "others come" - also those that are nearly . or .. */
    private static void otherPoints() {
        for (String other : new String[] {"...", "....", "%2e%2e%2e", ".%2e.", "%2", "%2f", "%2d", "%2F", "%2D", "%3e", "%1e", ".%2", "..%2",
            "%2e2e", "2e", ".a", "a.", "..a", "a..", ". ", "%2e%", "%%2e", "%252e", "%2ee", ".%2f"}) {
            String out = other.replace(" ", "%20");
            reads("", "http://a/b/" + other + "/c", "http://a/b/" + out + "/c");
            reads("", "http://a/b/" + other + "?", "http://a/b/" + out + "?");
        }
    }

    /** "At ? QUERY: up to # or END .. At # FRAGMENT: up to END" */
    private static void queriesAndFragments() {
        reads("", "http://a?", "http://a/?");
        reads("", "http://a#", "http://a/#");
        reads("", "http://a?#", "http://a/?#");
        reads("", "http://a#?", "http://a/#?");
        reads("", "http://a??", "http://a/??");
        reads("", "http://a##", "http://a/##");
        reads("", "http://a?/../b#/../c", "http://a/?/../b#/../c");
        reads("", "http://a/?b\\c#d\\e", "http://a/?b\\c#d\\e");
        reads("http://a?q", "#", "http://a/?q#");
        reads("http://a?q", "?", "http://a/?");
        reads("http://a?q#f", "b", "http://a/b");
    }
}
