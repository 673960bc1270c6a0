import java.math.BigInteger;
import java.util.ArrayList;
import java.util.List;
import java.util.regex.Matcher;
import java.util.regex.Pattern;

/**
 * The document once more, in the plainest way that the Java library allows (texts, patterns, lists), and with nothing of
 * the class in it: what ModelTest holds the class against.
 */
final class Model {
    private static final int NONE = -1, BAD = -2, FULL = -3, NO_SCHEME = -11, STRANGE = -12, NO_HOST = -13, WRONG = -14;
    private static final int FOUR = -15, SIX = -16, PORT = -17;
    private static final String IN_FRAGMENT = " \"<>`", IN_QUERY = " \"#<>'";
    private static final String IN_PATH = " \"#<>?^`{}", IN_USER = IN_PATH + "/:;=@[\\]|";
    private static final Pattern SCHEME = Pattern.compile("(?s)([A-Za-z][A-Za-z0-9+.-]*):(.*)");
    private static final Pattern AUTHORITY = Pattern.compile("(?s)[/\\\\]*([^/\\\\?#]*)(.*)");
    private static final Pattern HOST_AND_PORT = Pattern.compile("(?s)((?:[^:\\[]|\\[[^\\]]*+(?:\\]|$))*+)(?::(.*))?");
    private static final Pattern BYTE_ESCAPED = Pattern.compile("%([0-9a-fA-F]{2})");
    private static final Pattern FOUR_IN_SIX = Pattern.compile("(.*:)(0|[1-9]\\d*)\\.(0|[1-9]\\d*)\\.(0|[1-9]\\d*)\\.(0|[1-9]\\d*)");

    private static final class Fault extends Exception {
        private static final long serialVersionUID = 1L;
        final int number;

        Fault(int number) {
            this.number = number;
        }
    }

    /** A HOST: how it is WRITTEN, 0, 4 or 6, and all its bits. */
    private static final class ModelHost {
        String written;
        int kind;
        BigInteger bits = BigInteger.ZERO;
    }

    private static final class Entry {
        final ModelHost host;
        final boolean open;

        Entry(ModelHost host, boolean open) {
            this.host = host;
            this.open = open;
        }
    }

    /** An ADDRESS for a name, or a RANGE of so many bits. */
    private static final class Numbered {
        final String name;
        final int kind;
        final BigInteger bits;
        final int count;

        Numbered(String name, int kind, BigInteger bits, int count) {
            this.name = name;
            this.kind = kind;
            this.bits = bits;
            this.count = count;
        }
    }

    private static final class ModelRecord {
        String scheme;
        String user = "";
        String password = "";
        ModelHost host;
        int port = NONE;
        List<String> segments = new ArrayList<>();
        String query;
        String fragment;

        String path() {
            StringBuilder out = new StringBuilder();
            for (String segment : segments) {
                out.append('/').append(segment);
            }
            return out.toString();
        }

        String whole() {
            String name = user + (password.isEmpty() ? "" : ":" + password);
            return scheme + "://" + (name.isEmpty() ? "" : name + "@") + host.written + (port == NONE ? "" : ":" + port)
                + path() + (query == null ? "" : "?" + query) + (fragment == null ? "" : "#" + fragment);
        }

        String part(int what) {
            return new String[] {scheme, user, password, host.written, path(), query, fragment}[what];
        }

        int portThatCounts() {
            return port == NONE ? portOf(scheme) : port;
        }
    }

    private String text = "";
    private final ModelRecord[] places = new ModelRecord[4];
    private final List<Entry> listed = new ArrayList<>();
    private final List<Numbered> answers = new ArrayList<>();
    private final List<Numbered> ranges = new ArrayList<>();

    int type(long w, int n) {
        if (n < 1 || n > 8) {
            return BAD;
        }
        if (text.length() + n > 300) {
            return FULL;
        }
        for (int i = 0; i < n; i++) {
            text += (char) ((w >> (8 * i)) & 255);
        }
        return text.length();
    }

    int erase() {
        return taken().length();
    }

    private String taken() {
        String was = text;
        text = "";
        return was;
    }

    private ModelRecord there(int place) {
        return place >= 0 && place <= 3 ? places[place] : null;
    }

    int read(int place, int base) {
        if (place < 0 || place > 3 || (base != NONE && there(base) == null)) {
            return BAD;
        }
        try {
            ModelRecord made = recordOf(taken(), there(base));
            if (made.whole().length() > 1000) {
                return FULL;
            }
            places[place] = made;
            return 0;
        } catch (Fault fault) {
            return fault.number;
        }
    }

    /** How long a place's RECORD is WRITTEN (no call of the face). */
    int length(int place) {
        return there(place) == null ? 0 : there(place).whole().length();
    }

    int write(int place) {
        if (there(place) == null) {
            return BAD;
        }
        String whole = there(place).whole();
        if (whole.length() > 300) {
            return FULL;
        }
        text = whole;
        return text.length();
    }

    int at(int i) {
        return byteOf(text, i);
    }

    private static int byteOf(String row, int i) {
        return row == null || i < 0 || i >= row.length() ? NONE : row.charAt(i);
    }

    int size(int place, int what) {
        if (there(place) == null || what < 0 || what > 6) {
            return BAD;
        }
        String row = there(place).part(what);
        return row == null ? NONE : row.length();
    }

    int part(int place, int what, int i) {
        return there(place) == null || what < 0 || what > 6 ? BAD : byteOf(there(place).part(what), i);
    }

    int told(int place, int what) {
        ModelRecord one = there(place);
        if (one == null || what < 0 || what > 3) {
            return BAD;
        }
        return new int[] {one.port, one.portThatCounts(), one.host.kind, one.segments.size()}[what];
    }

    int number(int place, int k) {
        ModelRecord one = there(place);
        if (one == null || k < 0 || k > 7) {
            return BAD;
        }
        if (one.host.kind == 6) {
            return one.host.bits.shiftRight(16 * (7 - k)).intValue() & 0xffff;
        }
        return k == 0 ? one.host.bits.intValue() : 0;
    }

    int same(int one, int other) {
        ModelRecord first = there(one);
        ModelRecord second = there(other);
        if (first == null || second == null) {
            return BAD;
        }
        return origin(first).equals(origin(second)) ? 1 : 0;
    }

    private static String origin(ModelRecord one) {
        return one.scheme + " " + one.host.written + " " + one.portThatCounts();
    }

    int list(boolean open) {
        try {
            ModelHost host = hostOf(taken());
            if (open && host.kind != 0) {
                return BAD;
            }
            if (listed.size() == 12) {
                return FULL;
            }
            listed.add(new Entry(host, open));
            return listed.size();
        } catch (Fault fault) {
            return fault.number;
        }
    }

    int resolve(int kind, int a, int b, int c, int d) {
        if (kind != 4 && kind != 6) {
            return BAD;
        }
        try {
            ModelHost host = hostOf(taken());
            if (host.kind != 0) {
                return BAD;
            }
            if (answers.size() == 16) {
                return FULL;
            }
            answers.add(new Numbered(host.written, kind, bitsOf(kind, a, b, c, d), 0));
            return answers.size();
        } catch (Fault fault) {
            return fault.number;
        }
    }

    int range(int kind, int a, int b, int c, int d, int bits) {
        if ((kind != 4 && kind != 6) || bits < 0 || bits > (kind == 4 ? 32 : 128)) {
            return BAD;
        }
        if (ranges.size() == 12) {
            return FULL;
        }
        ranges.add(new Numbered("", kind, bitsOf(kind, a, b, c, d), bits));
        return ranges.size();
    }

    private static BigInteger bitsOf(int kind, int... words) {
        BigInteger bits = BigInteger.ZERO;
        for (int i = 0; i < (kind == 4 ? 1 : 4); i++) {
            bits = bits.shiftLeft(32).add(BigInteger.valueOf(words[i] & 0xffffffffL));
        }
        return bits;
    }

    int clear() {
        int all = listed.size() + answers.size() + ranges.size();
        listed.clear();
        answers.clear();
        ranges.clear();
        return all;
    }

    int pass(int place) {
        ModelRecord one = there(place);
        if (one == null) {
            return BAD;
        }
        if (!one.scheme.equals("http") && !one.scheme.equals("https")) {
            return 1;
        }
        if (!(one.user + one.password).isEmpty()) {
            return 2;
        }
        if (listed.stream().noneMatch(entry -> isListedBy(entry, one.host))) {
            return 3;
        }
        if (one.host.kind != 0) {
            return isInRanges(one.host.kind, one.host.bits) ? 0 : 5;
        }
        List<Numbered> given = answers.stream().filter(answer -> answer.name.equals(one.host.written)).toList();
        if (given.isEmpty()) {
            return 4;
        }
        return given.stream().allMatch(answer -> isInRanges(answer.kind, answer.bits)) ? 0 : 5;
    }

    private static boolean isListedBy(Entry entry, ModelHost host) {
        return entry.host.written.equals(host.written)
            || (entry.open && host.kind == 0 && host.written.endsWith("." + entry.host.written));
    }

    private boolean isInRanges(int kind, BigInteger bits) {
        if (kind == 6 && bits.shiftRight(32).intValue() == 0xffff && bits.bitLength() == 48) {
            return isInRanges(4, bits.mod(BigInteger.ONE.shiftLeft(32)));
        }
        int all = kind == 4 ? 32 : 128;
        return ranges.stream().anyMatch(range -> range.kind == kind
            && range.bits.shiftRight(all - range.count).equals(bits.shiftRight(all - range.count)));
    }

    // ---- READING

    private static int portOf(String scheme) {
        switch (scheme) {
            case "http": case "ws": return 80;
            case "https": case "wss": return 443;
            case "ftp": return 21;
            default: return NONE;
        }
    }

    private static String low(String some) {
        StringBuilder out = new StringBuilder();
        for (char c : some.toCharArray()) {
            out.append(c >= 'A' && c <= 'Z' ? (char) (c + 32) : c);
        }
        return out.toString();
    }

    private static String escaped(String some, String set) {
        StringBuilder out = new StringBuilder();
        for (char c : some.toCharArray()) {
            out.append(c < 32 || c >= 127 || set.indexOf(c) >= 0 ? String.format("%%%02X", (int) c) : String.valueOf(c));
        }
        return out.toString();
    }

    private static ModelRecord recordOf(String typed, ModelRecord base) throws Fault {
        String all = typed.replaceAll("\\A[\\x00-\\x20]+|[\\x00-\\x20]+\\z", "").replaceAll("[\t\n\r]", "");
        ModelRecord out = new ModelRecord();
        Matcher matcher = SCHEME.matcher(all);
        if (!matcher.matches()) {
            if (base == null) {
                throw new Fault(NO_SCHEME);
            }
            out.scheme = base.scheme;
            relative(all, base, out);
            return out;
        }
        out.scheme = low(matcher.group(1));
        String rest = matcher.group(2);
        if (portOf(out.scheme) == NONE) {
            throw new Fault(STRANGE);
        }
        if (base != null && base.scheme.equals(out.scheme) && !rest.startsWith("//")) {
            relative(rest, base, out);
        } else {
            slashes(rest, out);
        }
        return out;
    }

    private static void relative(String rest, ModelRecord base, ModelRecord out) throws Fault {
        if (rest.matches("(?s)[/\\\\][/\\\\].*")) {
            slashes(rest.substring(1), out);
            return;
        }
        out.user = base.user;
        out.password = base.password;
        out.host = base.host;
        out.port = base.port;
        if (rest.matches("(?s)[/\\\\].*")) {
            path(rest.substring(1), out);
            return;
        }
        out.segments.addAll(base.segments);
        if (rest.isEmpty() || rest.startsWith("#")) {
            out.query = base.query;
            tail(rest, out);
        } else if (rest.startsWith("?")) {
            tail(rest, out);
        } else {
            out.segments.remove(out.segments.size() - 1);
            path(rest, out);
        }
    }

    private static void slashes(String rest, ModelRecord out) throws Fault {
        Matcher matcher = AUTHORITY.matcher(rest);
        matcher.matches();
        String authority = matcher.group(1);
        int sign = authority.lastIndexOf('@');
        if (sign >= 0) {
            String[] both = authority.substring(0, sign).split(":", 2);
            out.user = escaped(both[0], IN_USER);
            out.password = both.length < 2 ? "" : escaped(both[1], IN_USER);
        }
        Matcher parts = HOST_AND_PORT.matcher(authority.substring(sign + 1));
        parts.matches();
        if (parts.group(1).isEmpty()) {
            throw new Fault(NO_HOST);
        }
        out.host = hostOf(parts.group(1));
        String port = parts.group(2) == null ? "" : parts.group(2);
        if (!port.matches("[0-9]*")) {
            throw new Fault(PORT);
        }
        if (!port.isEmpty()) {
            BigInteger number = new BigInteger(port);
            if (number.compareTo(BigInteger.valueOf(65535)) > 0) {
                throw new Fault(PORT);
            }
            out.port = number.intValue() == portOf(out.scheme) ? NONE : number.intValue();
        }
        path(matcher.group(2).replaceFirst("\\A[/\\\\]", ""), out);
    }

    /** From behind the first / on. */
    private static void path(String rest, ModelRecord out) {
        String own = rest.split("[?#]", 2)[0];
        String[] segments = own.split("[/\\\\]", -1);
        for (int i = 0; i < segments.length; i++) {
            String points = segments[i].replaceAll("%2[eE]", ".");
            boolean isLast = i == segments.length - 1;
            if (points.equals("..") && !out.segments.isEmpty()) {
                out.segments.remove(out.segments.size() - 1);
            }
            if (!points.equals(".") && !points.equals("..")) {
                out.segments.add(escaped(segments[i], IN_PATH));
            } else if (isLast) {
                out.segments.add("");
            }
        }
        tail(rest.substring(own.length()), out);
    }

    private static void tail(String rest, ModelRecord out) {
        String[] both = rest.split("#", 2);
        if (both.length == 2) {
            out.fragment = escaped(both[1], IN_FRAGMENT);
        }
        if (both[0].startsWith("?")) {
            out.query = escaped(both[0].substring(1), IN_QUERY);
        }
    }

    // ---- HOSTS

    private static ModelHost hostOf(String some) throws Fault {
        if (some.startsWith("[")) {
            if (!some.endsWith("]")) {
                throw new Fault(SIX);
            }
            return six(some.substring(1, some.length() - 1));
        }
        String name = BYTE_ESCAPED.matcher(some).replaceAll(
            found -> Matcher.quoteReplacement(String.valueOf((char) Integer.parseInt(found.group(1), 16))));
        if (name.isEmpty() || !name.matches("[!-~]*") || name.matches(".*[#%/:<>?@\\[\\\\\\]^|].*")) {
            throw new Fault(WRONG);
        }
        name = low(name);
        if (("." + name).contains(".xn--")) {
            throw new Fault(WRONG);
        }
        List<String> parts = new ArrayList<>(List.of(name.split("\\.", -1)));
        if (parts.size() > 1 && parts.get(parts.size() - 1).isEmpty()) {
            parts.remove(parts.size() - 1);
        }
        if (parts.get(parts.size() - 1).matches("[0-9]+|0x[0-9a-f]*")) {
            return four(parts);
        }
        ModelHost out = new ModelHost();
        out.written = name;
        return out;
    }

    private static BigInteger numberOf(String part) throws Fault {
        if (part.matches("0x[0-9a-f]*")) {
            return new BigInteger("0" + part.substring(2), 16);
        }
        if (part.matches("0[0-7]*")) {
            return new BigInteger(part, 8);
        }
        if (part.matches("[1-9][0-9]*")) {
            return new BigInteger(part);
        }
        throw new Fault(FOUR);
    }

    private static ModelHost four(List<String> parts) throws Fault {
        int n = parts.size();
        if (n > 4) {
            throw new Fault(FOUR);
        }
        ModelHost out = new ModelHost();
        out.kind = 4;
        for (int k = 0; k < n; k++) {
            BigInteger number = numberOf(parts.get(k));
            boolean isLast = k == n - 1;
            if (number.bitLength() > (isLast ? 8 * (5 - n) : 8)) {
                throw new Fault(FOUR);
            }
            out.bits = out.bits.add(isLast ? number : number.shiftLeft(8 * (3 - k)));
        }
        long all = out.bits.longValue();
        out.written = (all >> 24) + "." + (all >> 16 & 255) + "." + (all >> 8 & 255) + "." + (all & 255);
        return out;
    }

    private static ModelHost six(String some) throws Fault {
        String plain = some;
        Matcher matcher = FOUR_IN_SIX.matcher(some);
        if (matcher.matches()) {
            int[] numbers = new int[4];
            for (int i = 0; i < 4; i++) {
                String digits = matcher.group(i + 2);
                numbers[i] = digits.length() > 3 ? 256 : Integer.parseInt(digits);
                if (numbers[i] > 255) {
                    throw new Fault(SIX);
                }
            }
            plain = matcher.group(1) + String.format("%02x%02x:%02x%02x", numbers[0], numbers[1], numbers[2], numbers[3]);
        }
        int gap = plain.indexOf("::");
        List<String> pieces = pieces(gap < 0 ? plain : plain.substring(0, gap));
        if (gap >= 0) {
            List<String> behind = pieces(plain.substring(gap + 2));
            if (pieces.size() + behind.size() > 7) {
                throw new Fault(SIX);
            }
            while (pieces.size() + behind.size() < 8) {
                pieces.add("0");
            }
            pieces.addAll(behind);
        }
        if (pieces.size() != 8) {
            throw new Fault(SIX);
        }
        ModelHost out = new ModelHost();
        out.kind = 6;
        StringBuilder row = new StringBuilder();
        for (String piece : pieces) {
            if (!piece.matches("[0-9a-fA-F]{1,4}")) {
                throw new Fault(SIX);
            }
            int number = Integer.parseInt(piece, 16);
            out.bits = out.bits.shiftLeft(16).add(BigInteger.valueOf(number));
            row.append(':').append(Integer.toHexString(number));
        }
        out.written = "[" + shortened(row.substring(1)) + "]";
        return out;
    }

    private static List<String> pieces(String row) {
        return row.isEmpty() ? new ArrayList<>() : new ArrayList<>(List.of(row.split(":", -1)));
    }

    /** The longest row of 0s, looked for from eight of them down to two, the first one first. */
    private static String shortened(String row) {
        for (int n = 8; n >= 2; n--) {
            Matcher matcher = Pattern.compile("(^|:)0(:0){" + (n - 1) + "}(:|$)").matcher(row);
            if (matcher.find()) {
                return row.substring(0, matcher.start()) + "::" + row.substring(matcher.end());
            }
        }
        return row;
    }
}
