import java.util.Random;

/**
 * Runs of calls, the same ones each time, on the class and on the model of the document: each of the first 512 answers is
 * the same (later ones are free).
 */
public final class ModelTest {
    private static final Check CHECK = new Check();
    private static final String[] SCHEMES = {
        "http:", "https:", "ws:", "wss:", "ftp:", "HTTP:", "Http:", "file:", "htt:", "", "", "http", "h\tttp:", "1:",
    };
    private static final String[] SLASHES = {"//", "//", "//", "//", "/", "", "\\\\", "/\\", "///", "\\", "/\n/"};
    private static final String[] USERS = {
        "", "", "", "", "", "", "u@", "u:p@", ":p@", ":@", "@", "@@", "u:p:q@", "a@b:c@d@", "u;=|@", "[:]@", "\u00e9:{}@", ":",
    };
    private static final String[] HOSTS = {
        "a", "a.b", "x.a.b", "A.B", "a.b.", ".", "..a", "%41.b", "a%2eb", "a%2fb", "a%", "a b", "xn--a", "b.XN--", "xn-", "", "a_b",
        "1.2.3.4", "1.2.3.4.", "0x7f.1", "127.1", "10.0.0.255", "1.2.3.256", "256.1", "1.2.65535", "1.2.65536", "1.16777215",
        "1.16777216", "4294967295", "4294967296", "0xffffffff", "0X", "08", "017.1", "1.2.3.4.5", "a.1", "1..2", "1.2.3.0x", "0xg",
        "[::]", "[::1]", "[1::]", "[1:2:3:4:5:6:7:8]", "[1:2:3:4:5:6:7::]", "[::2:3:4:5:6:7:8]", "[1:0:0:4:0:0:0:8]", "[::ffff:1.2.3.4]",
        "[::1.2.3.255]", "[::1.2.3.256]", "[::1.2.3.04]", "[1::2::3]", "[::00001]", "[::g]", "[", "[]", "[::1", "[::1]x", "a[b:c]",
        "[::ffff:10.0.0.1]", "[0:0:0:0:0:ffff:a00:1]", "[fd00::1]", "[1:2:3:4:5:6:1.2.3.4]", "10.0.0.1", "x.a", "y.x.a.b",
    };
    private static final String[] PORTS = {
        "", "", "", "", "", ":", ":80", ":443", ":21", ":0", ":65535", ":65536", ":00080", ":8x", ":-1", "::1", ":99999999999", ":8080", ":10000", ":20000", ":999",
    };
    private static final String[] PATHS = {
        "", "/", "/b", "/b/c", "\\b", "/..", "/../", "/b/..", "/b/../", "/.", "/./", "/b/.", "/%2e%2E/c", "/%2e/", "/.%2e", "//", "//..",
        "b", "b/c", "..", "../d", ".", "./e", "../../..", "/b c", "/^`{}|", "/...", "/%2", "/%2e%2e%2e", "/\u007f\u0080\u00ff", "/b/c/d/../../e",
    };
    private static final String[] TAILS = {
        "", "", "", "?", "#", "?#", "?q", "#f", "?q#f", "?a?b#c#d", "?'\"<>`", "#'\"<>`", "? #", "?\u0001\u00ff", "#?", "?/..", "#/..",
    };
    private static final String[] GATE_HOSTS = {
        "a", "a.b", "x.a.b", "y.x.a.b", "b", "A.B", "xa.b", "10.0.0.1", "1.2.3.4", "[::ffff:10.0.0.1]", "[fd00::1]", "a.b", "x.a.b",
    };
    private static final String[] BASES = {"http://u:p@h.c:81/x/y/z?q#f", "https://1.2.3.4", "ftp://[::1]/a//b/?", "ws://h:1/x/..", "http://a.b"};
    private static final String EDGE_BYTES = "\u0000\t\n\r\u001f !\"#%'*+,-./09:;<=>?@AFGZ[\\]^`afgxz{|}~\u007f\u0080\u00ff";
    private static final int[] EDGES = {-2, -1, 0, 1, 2, 3, 4, 5, 6, 7, 8, 9, 31, 32, 33, 127, 128, 129, 299, 300, Integer.MAX_VALUE, Integer.MIN_VALUE};

    private final Random random;
    private final UrlGate gate = new UrlGate();
    private final Model model = new Model();
    private final String where;
    private int calls = 0;

    private ModelTest(int seed) {
        random = new Random(seed);
        where = "seed " + seed + ": ";
    }

    public static void main(String[] args) {
        int seeds = args.length > 0 ? Integer.parseInt(args[0]) : 3000;
        for (int seed = 0; seed < seeds; seed++) {
            ModelTest test = new ModelTest(seed);
            switch (seed % 4) {
                case 0: test.runGate(); break;
                case 1: test.runLong(); break;
                default: test.runReading();
            }
        }
        CHECK.finish();
    }

    private void runReading() {
        typed(one(BASES));
        due("read(0, -1)", gate.read(0, -1), model.read(0, -1));
        int most = 200 + random.nextInt(150);
        while (calls < most) {
            typed(disturbed(someUrl()));
            int place = place();
            readTo(place, random.nextInt(3) == 0 ? -1 : place());
            if (random.nextInt(4) == 0) {
                lookAtText();
            }
            if (random.nextInt(4) == 0) {
                due("write(" + place + ")", gate.write(place), model.write(place));
                lookAtText();
            }
            int other = place();
            due("same(" + place + ", " + other + ")", gate.same(place, other), model.same(place, other));
        }
        for (int place = 0; place < 4; place++) {
            lookAtPlace((place + most) & 3);
        }
    }

    /** A RECORD read by itself until it is WRITTEN with some 300, then some 1000 bytes, and then to those edges. */
    private void runLong() {
        typed(one(BASES));
        readTo(0, -1);
        int edge = random.nextBoolean() ? 300 : 1000;
        while (model.length(0) > 0 && model.length(0) < edge - 250 && calls < 300) {
            typed(one("b", "^", "\u00ff").repeat(60 + random.nextInt(30)) + one("/", "/b/", "/?" + "q".repeat(150)));
            readTo(0, 0);
        }
        while (calls < 400) {
            int left = edge - model.length(0) + random.nextInt(7) - 3;
            typed(one("#", "?", "./", "") + "c".repeat(Math.max(0, Math.min(left, 290))));
            int place = random.nextInt(3);
            readTo(place, 0);
            due("write(" + place + ")", gate.write(place), model.write(place));
            lookAtText();
        }
        lookAtPlace(random.nextInt(3));
    }

    private void runGate() {
        while (calls < 480) {
            boolean strange = random.nextInt(10) == 0;
            String host = disturbed(strange ? one(HOSTS) : one(GATE_HOSTS));
            int kind = random.nextInt(10) == 0 ? edge() : 4 + 2 * random.nextInt(2);
            boolean open = random.nextBoolean();
            switch (random.nextInt(7)) {
                case 0:
                    typed(host);
                    due("list(" + open + ")", gate.list(open), model.list(open));
                    break;
                case 1:
                case 2:
                    typed(host);
                    resolve(kind);
                    break;
                case 3:
                    range(kind);
                    break;
                default:
                    typed((strange ? one(SCHEMES) : "http:") + "//" + (strange ? one(USERS) : "") + host);
                    readTo(random.nextInt(4), -1);
            }
            int place = place();
            due("pass(" + place + ")", gate.pass(place), model.pass(place));
            if (random.nextInt(8) == 0) {
                lookAtText();
            }
            if (random.nextInt(100) == 0) {
                due("clear()", gate.clear(), model.clear());
            }
        }
        due("clear()", gate.clear(), model.clear());
    }

    private void due(String call, int got, int want) {
        calls++;
        if (calls <= 512) {
            CHECK.due(where + call, got, want);
        }
    }

    private String one(String... some) {
        return some[random.nextInt(some.length)];
    }

    private int edge() {
        return EDGES[random.nextInt(EDGES.length)];
    }

    private int place() {
        return random.nextInt(12) == 0 ? edge() : random.nextInt(4);
    }

    private String someUrl() {
        switch (random.nextInt(8)) {
            case 0: return one(PATHS) + one(TAILS);
            case 1: return one(SCHEMES) + one(PATHS) + one(PATHS) + one(TAILS);
            case 2: return "b".repeat(random.nextInt(200)) + "/" + "^".repeat(random.nextInt(90)) + one(PATHS) + one(TAILS);
            case 3: return "http://" + one(HOSTS) + one(PATHS);
            default: return one(SCHEMES) + one(SLASHES) + one(USERS) + one(HOSTS) + one(PORTS) + one(PATHS) + one(TAILS);
        }
    }

    /** Now and then a byte goes, comes or is another one. */
    private String disturbed(String some) {
        if (random.nextInt(6) != 0) {
            return some;
        }
        int i = random.nextInt(some.length() + 1);
        String before = some.substring(0, i);
        String behind = some.substring(random.nextBoolean() ? i : Math.min(i + 1, some.length()));
        String between = String.valueOf(EDGE_BYTES.charAt(random.nextInt(EDGE_BYTES.length())));
        return before + (random.nextInt(3) == 0 ? "" : between) + behind;
    }

    /** Now and then it comes behind what was there. */
    private void typed(String some) {
        if (random.nextInt(20) != 0) {
            due("erase()", gate.erase(), model.erase());
        }
        byte[] all = Check.bytes(some);
        int i = 0;
        while (i < all.length) {
            int n = Math.min(random.nextInt(6) == 0 ? 1 + random.nextInt(8) : 8, all.length - i);
            long w = random.nextLong();
            for (int k = 0; k < n; k++) {
                w = (w & ~(255L << (8 * k))) | ((all[i + k] & 255L) << (8 * k));
            }
            due("type(" + w + ", " + n + ")", gate.type(w, n), model.type(w, n));
            i += n;
        }
        if (random.nextInt(30) == 0) {
            int n = edge();
            due("type(97, " + n + ")", gate.type(97, n), model.type(97, n));
        }
    }

    private void readTo(int place, int base) {
        due("read(" + place + ", " + base + ")", gate.read(place, base), model.read(place, base));
    }

    private int[] someAddress(int kind) {
        if (kind == 4) {
            return new int[] {new int[] {0x0a000001, 0x0a0000ff, 0x01020304, -1, random.nextInt()}[random.nextInt(5)], edge(), 0, 0};
        }
        switch (random.nextInt(3)) {
            case 0: return new int[] {0, 0, 0xffff, 0x0a000001};
            case 1: return new int[] {0xfd000000, 0, 0, 1};
            default: return new int[] {edge(), edge(), edge(), edge()};
        }
    }

    private void resolve(int kind) {
        int[] a = someAddress(kind);
        due("resolve(" + kind + ")", gate.resolve(kind, a[0], a[1], a[2], a[3]), model.resolve(kind, a[0], a[1], a[2], a[3]));
    }

    private void range(int kind) {
        int[] a = someAddress(kind);
        int bits = random.nextInt(3) == 0 ? edge() : random.nextInt(10);
        due("range(" + kind + ", " + bits + ")", gate.range(kind, a[0], a[1], a[2], a[3], bits),
            model.range(kind, a[0], a[1], a[2], a[3], bits));
    }

    /** Both ends of THE TEXT, what is beside them, and some bytes between. */
    private void lookAtText() {
        int end = 0;
        while (model.at(end) != -1) {
            end++;
        }
        int[] some = {-1, 0, end / 3, end / 2, end - 1, end, edge()};
        for (int i : some) {
            due("at(" + i + ")", gate.at(i), model.at(i));
        }
    }

    private void lookAtPlace(int place) {
        for (int what = -1; what <= 7; what++) {
            String call = "(" + place + ", " + what + ")";
            int size = model.size(place, what);
            due("size" + call, gate.size(place, what), size);
            due("told" + call, gate.told(place, what), model.told(place, what));
            int[] some = {-1, 0, size / 2, size - 1, size};
            for (int i : some) {
                due("part" + call + " at " + i, gate.part(place, what, i), model.part(place, what, i));
            }
        }
        for (int k = -1; k <= 8; k++) {
            due("number(" + place + ", " + k + ")", gate.number(place, k), model.number(place, k));
        }
        due("write(" + place + ")", gate.write(place), model.write(place));
        lookAtText();
    }
}
