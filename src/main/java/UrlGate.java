import java.util.Arrays;

/** Addresses of the web read in one way alone, written back, compared, and let through a gate. */
public final class UrlGate {
    public static final int NONE = -1, BAD = -2, FULL = -3, NO_SCHEME = -11, STRANGE = -12, NO_HOST = -13, WRONG = -14, FOUR = -15, SIX = -16, PORT = -17;

    private static final int TEXT_LIMIT = 300, WRITTEN_LIMIT = 1000, PLACES = 4;

    private final Row text;
    private final Row draft;
    private final Url[] places;
    private final Host heard;
    private final HostReader hostReader;
    private final UrlReader urlReader;
    private final Gate gate;
    // A text is read into the spare one, so that a fault leaves the place as it was, and the base may be the same place.
    private Url spare;

    public UrlGate() {
        text = new Row();
        draft = new Row();
        places = new Url[PLACES];
        heard = new Host();
        hostReader = new HostReader();
        urlReader = new UrlReader();
        gate = new Gate();
        spare = new Url();
    }

    public int type(long w, int n) {
        if (n < 1 || n > 8) {
            return BAD;
        }
        if (text.length + n > TEXT_LIMIT) {
            return FULL;
        }
        for (int i = 0; i < n; i++) {
            text.add((int) (w >>> (8 * i)) & 255);
        }
        return text.length;
    }

    public int erase() {
        int was = text.length;
        text.cutTo(0);
        return was;
    }

    public int read(int place, int base) {
        Url basis = recordAt(base);
        if (place < 0 || place >= PLACES || (base != NONE && basis == null)) {
            return BAD;
        }
        int fault = urlReader.readUrl(text, basis, spare, hostReader);
        text.cutTo(0);
        if (fault != 0) {
            return fault;
        }
        spare.writeTo(draft);
        if (draft.length > WRITTEN_LIMIT) {
            return FULL;
        }
        Url old = places[place];
        places[place] = spare;
        spare = old == null ? new Url() : old;
        return 0;
    }

    public int write(int place) {
        Url url = recordAt(place);
        if (url == null) {
            return BAD;
        }
        url.writeTo(draft);
        if (draft.length > TEXT_LIMIT) {
            return FULL;
        }
        text.take(draft);
        return text.length;
    }

    public int at(int i) {
        return text.byteAt(i);
    }

    public int size(int place, int what) {
        Url url = recordAt(place);
        if (url == null || what < 0 || what >= Url.ROWS) {
            return BAD;
        }
        Row row = url.rowOf(what);
        return row == null ? NONE : row.length;
    }

    public int part(int place, int what, int i) {
        Url url = recordAt(place);
        if (url == null || what < 0 || what >= Url.ROWS) {
            return BAD;
        }
        Row row = url.rowOf(what);
        return row == null ? NONE : row.byteAt(i);
    }

    public int told(int place, int what) {
        Url url = recordAt(place);
        if (url == null) {
            return BAD;
        }
        switch (what) {
            case 0: return url.port;
            case 1: return url.portThatCounts();
            case 2: return url.host.address.kind;
            case 3: return url.segments;
            default: return BAD;
        }
    }

    public int number(int place, int k) {
        Url url = recordAt(place);
        if (url == null || k < 0 || k > 7) {
            return BAD;
        }
        return url.host.address.numberAt(k);
    }

    public int same(int one, int other) {
        Url first = recordAt(one);
        Url second = recordAt(other);
        if (first == null || second == null) {
            return BAD;
        }
        return first.hasOriginOf(second) ? 1 : 0;
    }

    public int list(boolean open) {
        int fault = hearHost();
        if (fault != 0) {
            return fault;
        }
        if (open && !heard.isName()) {
            return BAD;
        }
        return gate.addHost(heard, open);
    }

    public int resolve(int kind, int a, int b, int c, int d) {
        if (kind != 4 && kind != 6) {
            return BAD;
        }
        int fault = hearHost();
        if (fault != 0) {
            return fault;
        }
        if (!heard.isName()) {
            return BAD;
        }
        return gate.addAnswer(heard.written, kind, a, b, c, d);
    }

    public int range(int kind, int a, int b, int c, int d, int bits) {
        if ((kind != 4 && kind != 6) || bits < 0 || bits > (kind == 4 ? 32 : 128)) {
            return BAD;
        }
        return gate.addRange(kind, a, b, c, d, bits);
    }

    public int clear() {
        return gate.forget();
    }

    public int pass(int place) {
        Url url = recordAt(place);
        return url == null ? BAD : gate.judge(url);
    }

    private Url recordAt(int place) {
        return place < 0 || place >= PLACES ? null : places[place];
    }

    /** Reads THE TEXT as a HOST's text, and empties it whatever comes of it. */
    private int hearHost() {
        int fault = hostReader.readHost(text, 0, text.length, heard);
        text.cutTo(0);
        return fault;
    }

    /** What single bytes are; END comes as NONE. */
    private static final class Bytes {
        // The sets to ESCAPE, but for what is in all of them.
        static final String OF_FRAGMENT = " \"<>`", OF_QUERY = " \"#<>'";
        static final String OF_PATH = " \"#<>?^`{}", OF_USER = " \"#<>?^`{}/:;=@[\\]|";

        static boolean isDigit(int b) {
            return b >= '0' && b <= '9';
        }

        static boolean isLetter(int b) {
            return (b >= 'a' && b <= 'z') || (b >= 'A' && b <= 'Z');
        }

        static int low(int b) {
            return b >= 'A' && b <= 'Z' ? b + 32 : b;
        }

        static boolean isSlash(int b) {
            return b == '/' || b == '\\';
        }

        static boolean isDivider(int b) {
            return b == '/' || b == '\\' || b == '?' || b == '#';
        }

        /** The value of a digit of base 16, or NONE. */
        static int hexValue(int b) {
            if (b >= '0' && b <= '9') {
                return b - '0';
            }
            if (b >= 'a' && b <= 'f') {
                return b - 'a' + 10;
            }
            return b >= 'A' && b <= 'F' ? b - 'A' + 10 : NONE;
        }

        static boolean isToEscape(int b, String set) {
            return b < 32 || b > 126 || set.indexOf((char) b) >= 0;
        }

        static boolean isWrongInName(int b) {
            return b <= 32 || b > 126 || "#%/:<>?@[\\]^|".indexOf((char) b) >= 0;
        }
    }

    /** A row of bytes that grows as they come. */
    private static final class Row {
        // A base of 1000 and a text of 300, each byte escaped, stay far below it.
        private static final int LIMIT = 4096;

        private int[] bytes = new int[32];
        int length = 0;

        /** Byte i, or NONE. */
        int byteAt(int i) {
            return i < 0 || i >= length || i >= bytes.length ? NONE : bytes[i];
        }

        void add(int b) {
            if (length >= LIMIT) {
                return;
            }
            if (length >= bytes.length) {
                bytes = Arrays.copyOf(bytes, 2 * length);
            }
            bytes[length] = b;
            length++;
        }

        void cutTo(int n) {
            if (n >= 0 && n < length) {
                length = n;
            }
        }

        void addRow(Row other) {
            int n = other.length;
            for (int i = 0; i < n; i++) {
                add(other.byteAt(i));
            }
        }

        void addText(String word) {
            for (int i = 0; i < word.length(); i++) {
                add(word.charAt(i));
            }
        }

        void take(Row other) {
            int n = other.length;
            length = 0;
            for (int i = 0; i < n; i++) {
                add(other.byteAt(i));
            }
        }

        void addEscaped(int b, String set) {
            if (!Bytes.isToEscape(b, set)) {
                add(b);
                return;
            }
            add('%');
            add("0123456789ABCDEF".charAt((b >>> 4) & 15));
            add("0123456789ABCDEF".charAt(b & 15));
        }

        /** A number of up to 16 bits in base 10. */
        void addDecimal(int n) {
            for (int unit = 10000; unit > 0; unit /= 10) {
                if (n >= unit || unit == 1) {
                    add('0' + n / unit % 10);
                }
            }
        }

        /** A number of up to 16 bits in base 16. */
        void addHex(int n) {
            for (int shift = 12; shift >= 0; shift -= 4) {
                if (n >>> shift != 0 || shift == 0) {
                    add("0123456789abcdef".charAt((n >>> shift) & 15));
                }
            }
        }

        boolean equalsRow(Row other) {
            return length == other.length && endsWith(other);
        }

        boolean endsWith(Row tail) {
            int before = length - tail.length;
            if (before < 0) {
                return false;
            }
            for (int i = 0; i < tail.length; i++) {
                if (byteAt(before + i) != tail.byteAt(i)) {
                    return false;
                }
            }
            return true;
        }

        boolean hasAt(int from, String word) {
            for (int i = 0; i < word.length(); i++) {
                if (byteAt(from + i) != word.charAt(i)) {
                    return false;
                }
            }
            return true;
        }
    }

    /** An address of kind 4 or 6, its bits in words of 32, the highest first; kind 0 is none. */
    private static final class Address {
        int kind = 0;
        private final int[] words = new int[4];

        void setTo(int newKind, int a, int b, int c, int d) {
            kind = newKind;
            words[0] = newKind == 0 ? 0 : a;
            words[1] = newKind == 6 ? b : 0;
            words[2] = newKind == 6 ? c : 0;
            words[3] = newKind == 6 ? d : 0;
        }

        void take(Address other) {
            setTo(other.kind, other.words[0], other.words[1], other.words[2], other.words[3]);
        }

        /** Number k as the document counts them: one of 32 bits of FOUR, eight of 16 bits of SIX. */
        int numberAt(int k) {
            if (kind == 6 && k >= 0 && k < 8) {
                return (words[k >> 1] >>> ((k & 1) == 0 ? 16 : 0)) & 0xffff;
            }
            return k == 0 ? words[0] : 0;
        }

        boolean isIn(Address range, int bits) {
            if (isFourInSix()) {
                return range.kind == 4 && agree(words[3], range.words[0], bits);
            }
            if (kind != range.kind) {
                return false;
            }
            for (int i = 0; i < 4; i++) {
                if (!agree(words[i], range.words[i], bits - 32 * i)) {
                    return false;
                }
            }
            return true;
        }

        private boolean isFourInSix() {
            return kind == 6 && words[0] == 0 && words[1] == 0 && words[2] == 0xffff;
        }

        private static boolean agree(int x, int y, int bits) {
            if (bits <= 0) {
                return true;
            }
            return bits >= 32 ? x == y : (x ^ y) >>> (32 - bits) == 0;
        }
    }

    /** A HOST: an address, or a NAME if that is of kind 0; and how it is WRITTEN. */
    private static final class Host {
        final Address address = new Address();
        final Row written = new Row();

        boolean isName() {
            return address.kind == 0;
        }

        void take(Host other) {
            address.take(other.address);
            written.take(other.written);
        }

        // WRITTEN is canonical, and each kind is written as no other is.
        boolean equalsHost(Host other) {
            return address.kind == other.address.kind && written.equalsRow(other.written);
        }

        void setName(Row name) {
            address.setTo(0, 0, 0, 0, 0);
            written.take(name);
        }

        void setFour(int bits) {
            address.setTo(4, bits, 0, 0, 0);
            written.cutTo(0);
            for (int shift = 24; shift >= 0; shift -= 8) {
                written.addDecimal((bits >>> shift) & 255);
                if (shift > 0) {
                    written.add('.');
                }
            }
        }

        void setSix(int a, int b, int c, int d) {
            address.setTo(6, a, b, c, d);
            int gap = firstLongestGap();
            int behindGap = gap + zerosFrom(gap);
            written.cutTo(0);
            written.add('[');
            for (int k = 0; k < 8; k++) {
                if (k == gap) {
                    written.addText("::");
                }
                if (k >= gap && k < behindGap) {
                    continue;
                }
                if (k > 0 && k != behindGap) {
                    written.add(':');
                }
                written.addHex(address.numberAt(k));
            }
            written.add(']');
        }

        /** Where the first longest row of two or more 0s begins; 8 if there is none. */
        private int firstLongestGap() {
            int best = 8;
            int longest = 1;
            int zeros = 0;
            for (int k = 0; k < 8; k++) {
                zeros = address.numberAt(k) == 0 ? zeros + 1 : 0;
                if (zeros > longest) {
                    best = k + 1 - zeros;
                    longest = zeros;
                }
            }
            return best;
        }

        private int zerosFrom(int k) {
            int end = k;
            while (end < 8 && address.numberAt(end) == 0) {
                end++;
            }
            return end - k;
        }
    }

    /** Reads a HOST's text. Its methods answer 0 or the fault, if they do not say otherwise. */
    private static final class HostReader {
        // More than any address has; larger numbers are kept at it, so that none overflows.
        private static final long TOO_LARGE = 1L << 32;

        private final Row name = new Row();
        private final int[] pieces = new int[8];
        private int pieceCount = 0;

        int readHost(Row source, int from, int to, Host out) {
            if (from < to && source.byteAt(from) == '[') {
                return source.byteAt(to - 1) == ']' ? readSix(source, from + 1, to - 1, out) : SIX;
            }
            decode(source, from, to);
            if (name.length == 0 || hasWrongByte() || hasForeignPart()) {
                return WRONG;
            }
            int end = name.byteAt(name.length - 1) == '.' ? name.length - 1 : name.length;
            if (isNumeral(lastPartStart(end), end)) {
                return readFour(end, out);
            }
            out.setName(name);
            return 0;
        }

        private void decode(Row source, int from, int to) {
            name.cutTo(0);
            int p = from;
            while (p < to) {
                int high = p + 2 < to ? Bytes.hexValue(source.byteAt(p + 1)) : NONE;
                int low = p + 2 < to ? Bytes.hexValue(source.byteAt(p + 2)) : NONE;
                if (source.byteAt(p) == '%' && high != NONE && low != NONE) {
                    name.add(Bytes.low(16 * high + low));
                    p += 3;
                } else {
                    name.add(Bytes.low(source.byteAt(p)));
                    p++;
                }
            }
        }

        private boolean hasWrongByte() {
            for (int i = 0; i < name.length; i++) {
                if (Bytes.isWrongInName(name.byteAt(i))) {
                    return true;
                }
            }
            return false;
        }

        private boolean hasForeignPart() {
            for (int i = 0; i < name.length; i++) {
                if ((i == 0 || name.byteAt(i - 1) == '.') && name.hasAt(i, "xn--")) {
                    return true;
                }
            }
            return false;
        }

        private int lastPartStart(int end) {
            int start = end;
            while (start > 0 && name.byteAt(start - 1) != '.') {
                start--;
            }
            return start;
        }

        private boolean isNumeral(int from, int to) {
            boolean hex = isHex(from, to);
            for (int i = hex ? from + 2 : from; i < to; i++) {
                int b = name.byteAt(i);
                if (hex ? Bytes.hexValue(b) == NONE : !Bytes.isDigit(b)) {
                    return false;
                }
            }
            return from < to;
        }

        private boolean isHex(int from, int to) {
            return from + 2 <= to && name.hasAt(from, "0x");
        }

        private int readFour(int end, Host out) {
            long before = 0;
            int from = 0;
            for (int k = 0; k < 4; k++) {
                int to = partEnd(from, end);
                long value = numeralValue(from, to);
                if (value < 0) {
                    return FOUR;
                }
                if (to == end) {
                    if (value >= 1L << (8 * (4 - k))) {
                        return FOUR;
                    }
                    out.setFour((int) (before + value));
                    return 0;
                }
                if (value > 255) {
                    return FOUR;
                }
                before += value << (8 * (3 - k));
                from = to + 1;
            }
            return FOUR;
        }

        private int partEnd(int from, int end) {
            int to = from;
            while (to < end && name.byteAt(to) != '.') {
                to++;
            }
            return to;
        }

        /** The number that a part of FOUR is, at most TOO_LARGE; NONE: it is none. */
        private long numeralValue(int from, int to) {
            if (from >= to) {
                return NONE;
            }
            int base = 10;
            int p = from;
            if (isHex(from, to)) {
                base = 16;
                p = from + 2;
            } else if (name.byteAt(from) == '0') {
                base = 8;
            }
            long value = 0;
            for (int i = p; i < to; i++) {
                int digit = Bytes.hexValue(name.byteAt(i));
                if (digit == NONE || digit >= base) {
                    return NONE;
                }
                value = Math.min(value * base + digit, TOO_LARGE);
            }
            return value;
        }

        private int readSix(Row source, int from, int to, Host out) {
            int gap = findGap(source, from, to);
            boolean whole = gap == to;
            pieceCount = 0;
            if (!readPieces(source, from, gap, whole)) {
                return SIX;
            }
            int before = pieceCount;
            if (!whole && !readPieces(source, gap + 2, to, true)) {
                return SIX;
            }
            if (whole ? pieceCount != 8 : pieceCount > 7) {
                return SIX;
            }
            spread(before);
            out.setSix(wordAt(0), wordAt(2), wordAt(4), wordAt(6));
            return 0;
        }

        /** Where the first :: stands; to, if there is none. */
        private int findGap(Row source, int from, int to) {
            for (int i = from; i + 1 < to; i++) {
                if (source.byteAt(i) == ':' && source.byteAt(i + 1) == ':') {
                    return i;
                }
            }
            return to;
        }

        /** Numbers with : between, perhaps none at all; whether they are right. */
        private boolean readPieces(Row source, int from, int to, boolean mayEndInFour) {
            int p = from;
            boolean more = from < to;
            while (more && p <= to) {
                int end = p;
                boolean points = false;
                while (end < to && source.byteAt(end) != ':') {
                    points = points || source.byteAt(end) == '.';
                    end++;
                }
                more = end < to;
                boolean right = points
                    ? mayEndInFour && !more && readPoints(source, p, end)
                    : readPiece(source, p, end);
                if (!right) {
                    return false;
                }
                p = end + 1;
            }
            return true;
        }

        private boolean readPiece(Row source, int from, int to) {
            if (to - from < 1 || to - from > 4) {
                return false;
            }
            int value = 0;
            for (int i = from; i < to; i++) {
                int digit = Bytes.hexValue(source.byteAt(i));
                if (digit == NONE) {
                    return false;
                }
                value = 16 * value + digit;
            }
            return addPiece(value);
        }

        /** Four numbers with points between, as two pieces. */
        private boolean readPoints(Row source, int from, int to) {
            int bits = 0;
            int value = NONE;
            int points = 0;
            for (int i = from; i < to; i++) {
                int b = source.byteAt(i);
                if (b == '.') {
                    if (value == NONE) {
                        return false;
                    }
                    bits = (bits << 8) | value;
                    value = NONE;
                    points++;
                } else if (!Bytes.isDigit(b) || value == 0) {
                    return false;
                } else {
                    value = value == NONE ? b - '0' : 10 * value + b - '0';
                }
                if (value > 255 || points > 3) {
                    return false;
                }
            }
            if (value == NONE || points != 3) {
                return false;
            }
            bits = (bits << 8) | value;
            return addPiece(bits >>> 16) && addPiece(bits & 0xffff);
        }

        private boolean addPiece(int value) {
            if (pieceCount >= pieces.length) {
                return false;
            }
            pieces[pieceCount] = value;
            pieceCount++;
            return true;
        }

        /** Moves the pieces behind the :: to the end, with 0s between. */
        private void spread(int before) {
            int moved = pieceCount - before;
            for (int i = 7; i >= before && i >= 0; i--) {
                int from = i - (8 - pieceCount);
                pieces[i] = i >= 8 - moved && from >= 0 ? pieces[from] : 0;
            }
        }

        private int wordAt(int k) {
            return k < 0 || k + 1 >= pieces.length ? 0 : (pieces[k] << 16) | pieces[k + 1];
        }
    }

    /** A RECORD. Its PATH is kept as WRITTEN: no SEGMENT has a / in it. */
    private static final class Url {
        static final int ROWS = 7;
        static final int HTTP = 0, WS = 1, HTTPS = 2, WSS = 3, FTP = 4, SCHEMES = 5;

        int scheme = HTTP;
        final Row schemeName = new Row();
        final Row user = new Row();
        final Row password = new Row();
        final Host host = new Host();
        int port = NONE;
        final Row path = new Row();
        int segments = 0;
        final Row query = new Row();
        boolean hasQuery = false;
        final Row fragment = new Row();
        boolean hasFragment = false;

        static String nameOf(int scheme) {
            switch (scheme) {
                case HTTP: return "http";
                case WS: return "ws";
                case HTTPS: return "https";
                case WSS: return "wss";
                default: return "ftp";
            }
        }

        static int portOf(int scheme) {
            switch (scheme) {
                case HTTP:
                case WS: return 80;
                case HTTPS:
                case WSS: return 443;
                default: return 21;
            }
        }

        void empty() {
            user.cutTo(0);
            password.cutTo(0);
            port = NONE;
            path.cutTo(0);
            segments = 0;
            query.cutTo(0);
            hasQuery = false;
            fragment.cutTo(0);
            hasFragment = false;
        }

        void setScheme(int newScheme) {
            scheme = newScheme;
            schemeName.cutTo(0);
            schemeName.addText(nameOf(newScheme));
        }

        void takeAuthority(Url base) {
            user.take(base.user);
            password.take(base.password);
            host.take(base.host);
            port = base.port;
        }

        void takePath(Url base) {
            path.take(base.path);
            segments = base.segments;
        }

        void takeQuery(Url base) {
            query.take(base.query);
            hasQuery = base.hasQuery;
        }

        void beginSegment() {
            path.add('/');
            segments++;
        }

        void dropSegment() {
            if (segments == 0) {
                return;
            }
            int slash = path.length - 1;
            while (slash > 0 && path.byteAt(slash) != '/') {
                slash--;
            }
            path.cutTo(slash);
            segments--;
        }

        int portThatCounts() {
            return port == NONE ? portOf(scheme) : port;
        }

        boolean hasOriginOf(Url other) {
            return scheme == other.scheme
                && host.equalsHost(other.host)
                && portThatCounts() == other.portThatCounts();
        }

        boolean hasUser() {
            return user.length > 0 || password.length > 0;
        }

        /** A part by its number in the document; null: there is none. */
        Row rowOf(int what) {
            switch (what) {
                case 0: return schemeName;
                case 1: return user;
                case 2: return password;
                case 3: return host.written;
                case 4: return path;
                case 5: return hasQuery ? query : null;
                case 6: return hasFragment ? fragment : null;
                default: return null;
            }
        }

        void writeTo(Row out) {
            out.take(schemeName);
            out.addText("://");
            if (hasUser()) {
                out.addRow(user);
                if (password.length > 0) {
                    out.add(':');
                    out.addRow(password);
                }
                out.add('@');
            }
            out.addRow(host.written);
            if (port != NONE) {
                out.add(':');
                out.addDecimal(port);
            }
            out.addRow(path);
            if (hasQuery) {
                out.add('?');
                out.addRow(query);
            }
            if (hasFragment) {
                out.add('#');
                out.addRow(fragment);
            }
        }
    }

    /** Reads a text into a RECORD. A step that is done answers the next one, or the fault (below 0). */
    private static final class UrlReader {
        private static final int AT_RELATIVE = 1, AT_SLASHES = 2, AT_HOST = 3, AT_PATH = 4, AT_SEGMENTS = 5, AT_QUERY = 6;

        private final Row source = new Row();
        private int here = 0;
        private int hostStart = 0;
        private int hostEnd = 0;

        int readUrl(Row text, Url base, Url out, HostReader hosts) {
            tidy(text);
            out.empty();
            int step = readScheme(base, out);
            if (step == AT_RELATIVE && base != null) {
                step = readRelative(base, out);
            }
            if (step == AT_SLASHES) {
                step = readAuthority(out);
            }
            if (step == AT_HOST) {
                int fault = hosts.readHost(source, hostStart, hostEnd, out.host);
                step = fault != 0 ? fault : readPort(out);
            }
            if (step < 0) {
                return step;
            }
            if (step == AT_PATH && Bytes.isSlash(source.byteAt(here))) {
                here++;
            }
            if (step == AT_PATH || step == AT_SEGMENTS) {
                readSegments(out);
            }
            readQuery(out);
            readFragment(out);
            return 0;
        }

        private void tidy(Row text) {
            int from = 0;
            int to = text.length;
            while (from < to && text.byteAt(from) <= 32) {
                from++;
            }
            while (to > from && text.byteAt(to - 1) <= 32) {
                to--;
            }
            source.cutTo(0);
            for (int i = from; i < to; i++) {
                int b = text.byteAt(i);
                if (b != 9 && b != 10 && b != 13) {
                    source.add(b);
                }
            }
        }

        private int readScheme(Url base, Url out) {
            int colon = schemeEnd();
            if (colon == NONE) {
                if (base == null) {
                    return NO_SCHEME;
                }
                here = 0;
                out.setScheme(base.scheme);
                return AT_RELATIVE;
            }
            int scheme = schemeUpTo(colon);
            if (scheme == NONE) {
                return STRANGE;
            }
            here = colon + 1;
            out.setScheme(scheme);
            boolean ofBase = base != null && base.scheme == scheme;
            return ofBase && !source.hasAt(here, "//") ? AT_RELATIVE : AT_SLASHES;
        }

        /** Where the : behind a scheme is, or NONE. */
        private int schemeEnd() {
            if (!Bytes.isLetter(source.byteAt(0))) {
                return NONE;
            }
            int p = 1;
            while (p < source.length && mayBeInScheme(source.byteAt(p))) {
                p++;
            }
            return source.byteAt(p) == ':' ? p : NONE;
        }

        private static boolean mayBeInScheme(int b) {
            return Bytes.isLetter(b) || Bytes.isDigit(b) || b == '+' || b == '-' || b == '.';
        }

        private int schemeUpTo(int end) {
            for (int scheme = 0; scheme < Url.SCHEMES; scheme++) {
                if (isWord(end, Url.nameOf(scheme))) {
                    return scheme;
                }
            }
            return NONE;
        }

        private boolean isWord(int end, String word) {
            if (end != word.length()) {
                return false;
            }
            for (int i = 0; i < word.length(); i++) {
                if (Bytes.low(source.byteAt(i)) != word.charAt(i)) {
                    return false;
                }
            }
            return true;
        }

        private int readRelative(Url base, Url out) {
            int b = source.byteAt(here);
            if (Bytes.isSlash(b) && Bytes.isSlash(source.byteAt(here + 1))) {
                return AT_SLASHES;
            }
            out.takeAuthority(base);
            if (Bytes.isSlash(b)) {
                return AT_PATH;
            }
            out.takePath(base);
            if (b == '?') {
                return AT_QUERY;
            }
            if (b == '#' || b == NONE) {
                out.takeQuery(base);
                return AT_QUERY;
            }
            out.dropSegment();
            return AT_SEGMENTS;
        }

        private int readAuthority(Url out) {
            int from = here;
            while (from < source.length && Bytes.isSlash(source.byteAt(from))) {
                from++;
            }
            int end = from;
            while (end < source.length && !Bytes.isDivider(source.byteAt(end))) {
                end++;
            }
            here = end;
            int sign = end - 1;
            while (sign >= from && source.byteAt(sign) != '@') {
                sign--;
            }
            if (sign >= from) {
                readUser(from, sign, out);
                from = sign + 1;
            }
            hostStart = from;
            hostEnd = hostEndFrom(from, end);
            return hostEnd == hostStart ? NO_HOST : AT_HOST;
        }

        private void readUser(int from, int to, Url out) {
            boolean inPassword = false;
            for (int i = from; i < to; i++) {
                int b = source.byteAt(i);
                if (b == ':' && !inPassword) {
                    inPassword = true;
                } else {
                    Row row = inPassword ? out.password : out.user;
                    row.addEscaped(b, Bytes.OF_USER);
                }
            }
        }

        private int hostEndFrom(int from, int end) {
            boolean open = false;
            for (int i = from; i < end; i++) {
                int b = source.byteAt(i);
                if (b == ':' && !open) {
                    return i;
                }
                open = b == '[' || (open && b != ']');
            }
            return end;
        }

        private int readPort(Url out) {
            int port = NONE;
            for (int i = hostEnd + 1; i < here; i++) {
                int b = source.byteAt(i);
                if (!Bytes.isDigit(b)) {
                    return PORT;
                }
                port = 10 * Math.max(port, 0) + b - '0';
                if (port > 65535) {
                    return PORT;
                }
            }
            out.port = port == Url.portOf(out.scheme) ? NONE : port;
            return AT_PATH;
        }

        private void readSegments(Url out) {
            int from = here;
            boolean more = true;
            while (more && from <= source.length) {
                int to = from;
                while (to < source.length && !Bytes.isDivider(source.byteAt(to))) {
                    to++;
                }
                more = Bytes.isSlash(source.byteAt(to));
                takeSegment(from, to, more, out);
                here = to;
                from = to + 1;
            }
        }

        private void takeSegment(int from, int to, boolean slashBehind, Url out) {
            int points = pointsIn(from, to);
            if (points == 2) {
                out.dropSegment();
            }
            if (points == 0 || !slashBehind) {
                out.beginSegment();
            }
            for (int i = from; i < to && points == 0; i++) {
                out.path.addEscaped(source.byteAt(i), Bytes.OF_PATH);
            }
        }

        /** 1 for a segment that is . and 2 for one that is .. , written in any way; 0 for all others. */
        private int pointsIn(int from, int to) {
            int points = 0;
            int p = from;
            while (p < to) {
                if (source.byteAt(p) == '.') {
                    p++;
                } else if (p + 3 <= to && (source.hasAt(p, "%2e") || source.hasAt(p, "%2E"))) {
                    p += 3;
                } else {
                    return 0;
                }
                points++;
            }
            return points > 2 ? 0 : points;
        }

        private void readQuery(Url out) {
            if (source.byteAt(here) != '?') {
                return;
            }
            out.hasQuery = true;
            here++;
            while (here < source.length && source.byteAt(here) != '#') {
                out.query.addEscaped(source.byteAt(here), Bytes.OF_QUERY);
                here++;
            }
        }

        private void readFragment(Url out) {
            if (source.byteAt(here) != '#') {
                return;
            }
            out.hasFragment = true;
            for (int i = here + 1; i < source.length; i++) {
                out.fragment.addEscaped(source.byteAt(i), Bytes.OF_FRAGMENT);
            }
        }
    }

    /** What is listed, what the RESOLVER gives, and the RANGES. */
    private static final class Gate {
        private static final int HOSTS = 12, ANSWERS = 16, RANGES = 12;
        private static final int BY_SCHEME = 1, BY_USER = 2, NOT_LISTED = 3, NOT_RESOLVED = 4, OUT_OF_RANGE = 5;

        private final Host[] hosts = new Host[HOSTS];
        private final boolean[] open = new boolean[HOSTS];
        private int hostCount = 0;
        private final Row[] names = new Row[ANSWERS];
        private final Address[] answers = new Address[ANSWERS];
        private int answerCount = 0;
        private final Address[] ranges = new Address[RANGES];
        private final int[] rangeBits = new int[RANGES];
        private int rangeCount = 0;

        int addHost(Host host, boolean alsoBelow) {
            if (hostCount >= HOSTS) {
                return FULL;
            }
            Host kept = new Host();
            kept.take(host);
            hosts[hostCount] = kept;
            open[hostCount] = alsoBelow;
            hostCount++;
            return hostCount;
        }

        int addAnswer(Row name, int kind, int a, int b, int c, int d) {
            if (answerCount >= ANSWERS) {
                return FULL;
            }
            Row kept = new Row();
            kept.take(name);
            names[answerCount] = kept;
            Address answer = new Address();
            answer.setTo(kind, a, b, c, d);
            answers[answerCount] = answer;
            answerCount++;
            return answerCount;
        }

        int addRange(int kind, int a, int b, int c, int d, int bits) {
            if (rangeCount >= RANGES) {
                return FULL;
            }
            Address range = new Address();
            range.setTo(kind, a, b, c, d);
            ranges[rangeCount] = range;
            rangeBits[rangeCount] = bits;
            rangeCount++;
            return rangeCount;
        }

        int forget() {
            int all = hostCount + answerCount + rangeCount;
            hostCount = 0;
            answerCount = 0;
            rangeCount = 0;
            return all;
        }

        int judge(Url url) {
            if (url.scheme != Url.HTTP && url.scheme != Url.HTTPS) {
                return BY_SCHEME;
            }
            if (url.hasUser()) {
                return BY_USER;
            }
            if (!isListed(url.host)) {
                return NOT_LISTED;
            }
            if (url.host.isName()) {
                return judgeAnswers(url.host.written);
            }
            return isInSomeRange(url.host.address) ? 0 : OUT_OF_RANGE;
        }

        private boolean isListed(Host host) {
            for (int i = 0; i < hostCount && i < HOSTS; i++) {
                Host kept = hosts[i];
                if (kept != null && (host.equalsHost(kept) || (open[i] && isBelow(host, kept)))) {
                    return true;
                }
            }
            return false;
        }

        private static boolean isBelow(Host host, Host above) {
            return host.isName()
                && host.written.endsWith(above.written)
                && host.written.byteAt(host.written.length - above.written.length - 1) == '.';
        }

        private int judgeAnswers(Row name) {
            int given = 0;
            boolean allIn = true;
            for (int i = 0; i < answerCount && i < ANSWERS; i++) {
                Row kept = names[i];
                if (kept != null && kept.equalsRow(name)) {
                    given++;
                    allIn = allIn && isInSomeRange(answers[i]);
                }
            }
            if (given == 0) {
                return NOT_RESOLVED;
            }
            return allIn ? 0 : OUT_OF_RANGE;
        }

        private boolean isInSomeRange(Address address) {
            for (int i = 0; i < rangeCount && i < RANGES; i++) {
                Address range = ranges[i];
                if (address != null && range != null && address.isIn(range, rangeBits[i])) {
                    return true;
                }
            }
            return false;
        }
    }
}
