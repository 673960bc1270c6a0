import java.util.Random;

/**
 * Runs of calls with any arguments, the same ones each time: none may throw, all answers stay among those that the
 * document names, and what is written reads back as the same.
 */
public final class AnyCallsTest {
    private static final Check CHECK = new Check();
    // What an object answers behind its 512th call is free: longer ones would need more calls.
    private static final int MOST_WRITTEN = 90;
    private static final String[] PIECES = {
        "http:", "https:", "ws:", "ftp:", "//", "/", "\\", "?", "#", "@", ":", "[", "]", "::", "1", "0x", "08", "255", ".", "..",
        "%2e", "%2E", "%", "%41", "a", "B", "xn--", " ", "\n", "\u0000", "\u00ff", "80", "65536", "a.b", "1.2.3.4", "[::1]",
        "ffff", "\"<>`{}|^'", "http://a/", "http://a.b/",
    };
    private static final int[] EDGES = {-1, 0, 1, 2, 3, 4, 5, 6, 7, 8, 300, Integer.MAX_VALUE, Integer.MIN_VALUE};

    public static void main(String[] args) {
        for (int seed = 0; seed < 4000; seed++) {
            run(new Random(seed), seed);
        }
        CHECK.finish();
    }

    private static void run(Random random, int seed) {
        UrlGate gate = new UrlGate();
        for (int call = 0; call < 100; call++) {
            any(gate, random);
            Check.type(gate, PIECES[random.nextInt(PIECES.length)]);
        }
        int place = seed % 4;
        readBack(gate, place, "seed " + seed + ", place " + place);
    }

    private static int edge(Random random) {
        return EDGES[random.nextInt(EDGES.length)];
    }

    private static int small(Random random) {
        return random.nextInt(8) == 0 ? edge(random) : random.nextInt(4);
    }

    private static void any(UrlGate gate, Random random) {
        int a = small(random);
        int b = edge(random);
        switch (random.nextInt(18)) {
            case 0: answered("type", gate.type(random.nextLong(), b), 300); break;
            case 1: answered("erase", gate.erase(), 300); break;
            case 2: answered("write", gate.write(a), 300); break;
            case 3: answered("at", gate.at(b), 255); break;
            case 4: answered("size", gate.size(a, b), 1000); break;
            case 5: answered("part", gate.part(a, b, random.nextInt(20)), 255); break;
            case 6: answered("told", gate.told(a, b), 65535); break;
            case 7: gate.number(a, b); break;
            case 8: answered("same", gate.same(a, small(random)), 1); break;
            case 9: answered("list", gate.list(random.nextBoolean()), 12); break;
            case 10: answered("resolve", gate.resolve(4 + random.nextInt(3), b, a, b, a), 16); break;
            case 11: answered("range", gate.range(4 + random.nextInt(3), b, a, b, a, edge(random)), 12); break;
            case 12: answered("clear", random.nextInt(8) == 0 ? gate.clear() : 0, 40); break;
            case 13: answered("pass", gate.pass(a), 5); break;
            default: answered("read", gate.read(a, random.nextInt(3) == 0 ? -1 : small(random)), 0); break;
        }
    }

    private static void answered(String call, int got, int most) {
        boolean named = (got >= 0 && got <= most) || (got <= -1 && got >= -3) || (got <= -11 && got >= -17);
        CHECK.due(call + " answered " + got, named ? 1 : 0, 1);
    }

    private static void readBack(UrlGate gate, int place, String where) {
        String written = Check.written(gate, place);
        if (written.startsWith("-") || written.length() > MOST_WRITTEN) {
            return;
        }
        UrlGate other = new UrlGate();
        CHECK.due(where + " read back", Check.read(other, 0, UrlGate.NONE, written), 0);
        CHECK.due(where + " written again", Check.written(other, 0), written);
        for (int what = 0; what < 7; what++) {
            CHECK.due(where + " part " + what, Check.part(other, 0, what), Check.part(gate, place, what));
        }
        for (int k = 0; k < 8; k++) {
            CHECK.due(where + " number " + k, other.number(0, k), gate.number(place, k));
            CHECK.due(where + " told " + k, other.told(0, k), gate.told(place, k));
        }
    }
}
