import java.nio.charset.StandardCharsets;

/** What all tests share: texts in and out of a gate, and answers held against the ones that are due. */
final class Check {
    private int wrong = 0;

    void due(String call, long got, long want) {
        if (got != want) {
            wrong++;
            System.out.println(call + " answered " + got + ", due is " + want);
        }
    }

    void due(String call, String got, String want) {
        if (!got.equals(want)) {
            wrong++;
            System.out.println(call + " answered " + shown(got) + ", due is " + shown(want));
        }
    }

    void finish() {
        if (wrong > 0) {
            System.out.println(wrong + " answers are not as due");
            System.exit(1);
        }
    }

    static byte[] bytes(String text) {
        return text.getBytes(StandardCharsets.ISO_8859_1);
    }

    static String shown(String text) {
        StringBuilder out = new StringBuilder();
        for (byte b : bytes(text)) {
            out.append(b < 32 || b > 126 ? String.format("{%02x}", b & 255) : String.valueOf((char) b));
        }
        return out.toString();
    }

    /** Puts a text behind THE TEXT, eight bytes a call; the last answer. */
    static int type(UrlGate gate, String text) {
        byte[] all = bytes(text);
        int answer = 0;
        for (int i = 0; i < all.length; i += 8) {
            int n = Math.min(8, all.length - i);
            long w = 0;
            for (int k = 0; k < n; k++) {
                w |= (all[i + k] & 255L) << (8 * k);
            }
            answer = gate.type(w, n);
        }
        return answer;
    }

    static int read(UrlGate gate, int place, int base, String text) {
        gate.erase();
        type(gate, text);
        return gate.read(place, base);
    }

    /** THE TEXT, byte by byte. */
    static String text(UrlGate gate) {
        StringBuilder out = new StringBuilder();
        for (int b = gate.at(0); b != UrlGate.NONE; b = gate.at(out.length())) {
            out.append((char) b);
        }
        return out.toString();
    }

    /** A place's RECORD as it is WRITTEN, or the fault; THE TEXT is empty then. */
    static String written(UrlGate gate, int place) {
        gate.erase();
        int answer = gate.write(place);
        String out = answer < 0 ? String.valueOf(answer) : text(gate);
        gate.erase();
        return out;
    }

    /** A part by the calls size and part; - for one that there is not. */
    static String part(UrlGate gate, int place, int what) {
        int n = gate.size(place, what);
        if (n < 0) {
            return n == UrlGate.NONE ? "-" : String.valueOf(n);
        }
        StringBuilder out = new StringBuilder();
        for (int i = 0; i < n; i++) {
            out.append((char) gate.part(place, what, i));
        }
        return out.toString();
    }

    /** What a text is WRITTEN as once it is read by a base (or none), or the fault. */
    static String readBy(String base, String text) {
        UrlGate gate = new UrlGate();
        int basePlace = UrlGate.NONE;
        if (!base.isEmpty()) {
            if (read(gate, 2, UrlGate.NONE, base) != 0) {
                return "base";
            }
            basePlace = 2;
        }
        int answer = read(gate, 1, basePlace, text);
        return answer == 0 ? written(gate, 1) : String.valueOf(answer);
    }

    /** How a HOST's text is WRITTEN in a RECORD, or the fault. */
    static String host(String text) {
        UrlGate gate = new UrlGate();
        int answer = read(gate, 0, UrlGate.NONE, "ws://" + text);
        return answer == 0 ? part(gate, 0, 3) : String.valueOf(answer);
    }

    static int list(UrlGate gate, String host, boolean open) {
        gate.erase();
        type(gate, host);
        return gate.list(open);
    }

    static int resolveFour(UrlGate gate, String host, int bits) {
        gate.erase();
        type(gate, host);
        return gate.resolve(4, bits, 0, 0, 0);
    }

    static int resolveSix(UrlGate gate, String host, int a, int b, int c, int d) {
        gate.erase();
        type(gate, host);
        return gate.resolve(6, a, b, c, d);
    }
}
