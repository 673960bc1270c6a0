/** The edges that section 2 (HOSTS) names: a method for each sentence, which stands above it. */
public final class EdgesOfHostsTest {
    private static final Check CHECK = new Check();

    public static void main(String[] args) {
        brackets();
        escapedBytes();
        escapedOnceOnly();
        wrongBytes();
        nothingGoesAtTheEnds();
        low();
        withoutBytes();
        foreignParts();
        lastPartWithoutBytes();
        nameOrFour();
        emptyHex();
        atMostFourParts();
        onePart();
        twoParts();
        threeParts();
        fourParts();
        fourWritten();
        partsBeforeTheLast();
        bases();
        otherBytesInFour();
        digitsOfSix();
        eightNumbers();
        gapAtEitherEnd();
        gapForOneNumber();
        gapForNone();
        gapTwice();
        fourNumbersInSix();
        fourNumbersElsewhere();
        zerosBeforeDigits();
        sixWritten();
        sixDigits();
        CHECK.finish();
    }

    /** A HOST's text in a RECORD and, if it may stand there too, by list: both are the same. */
    private static void hosts(String text, String want) {
        CHECK.due("'" + Check.shown(text) + "'", Check.host(text), want);
        UrlGate gate = new UrlGate();
        int fault = want.matches("-1[1-7]") ? Integer.parseInt(want) : 1;
        CHECK.due("list of '" + Check.shown(text) + "'", Check.list(gate, text, false), fault);
    }

    private static void fails(String text, int fault) {
        hosts(text, String.valueOf(fault));
    }

    private static void fails(int fault, String... texts) {
        for (String text : texts) {
            fails(text, fault);
        }
    }

    /** "if it begins with [ : it must end with ] (SIX)" */
    private static void brackets() {
        hosts("[::]", "[::]");
        fails(UrlGate.SIX, "[", "[]", "[::", "[::1", "[::]a", "[::].", "[::1]]", "[[::1]]", "[[::]", "[]]", "[a]", "[ ]", "[%31::]");
        fails(UrlGate.WRONG, "]", "a]", "a[::1]", "%5b::1]", "%5b%5d");
    }

    /** "each % with two digits 0 .. 9 a .. f A .. F behind it is that byte" */
    private static void escapedBytes() {
        for (int b = 0; b < 256; b++) {
            boolean wrong = b <= 32 || b >= 127 || "#%/:<>?@[\\]^|".indexOf((char) b) >= 0;
            char c = (char) (b >= 'A' && b <= 'Z' ? b + 32 : b);
            String want = wrong ? String.valueOf(UrlGate.WRONG) : "x" + c;
            for (String format : new String[] {"x%%%02x", "x%%%02X"}) {
                CHECK.due("escaped " + b, Check.host(String.format(format, b)), want);
            }
        }
        hosts("%61", "a");
        hosts("%4a", "j");
        hosts("%4A", "j");
        fails(UrlGate.WRONG, "%", "a%", "%6", "a%6", "%6g", "%g1", "%6/", "%6:", "%6`", "%6G", "%:1", "% 61", "%%", "%%61");
    }

    /** What is made of a % is not looked at once more. */
    private static void escapedOnceOnly() {
        fails(UrlGate.WRONG, "%2561", "%25", "%2%361", "%%36%31");
        hosts("%36%31a", "61a");
    }

    /** "if then a byte is 0 .. 32, 127 .. 255, or one of # % / : < > ? @ [ \ ] ^ |: WRONG" */
    private static void wrongBytes() {
        for (int b = 0; b < 256; b++) {
            boolean wrong = b <= 32 || b >= 127 || "#%/:<>?@[\\]^|".indexOf((char) b) >= 0;
            UrlGate gate = new UrlGate();
            CHECK.due("list with " + b, Check.list(gate, "x" + (char) b + "y", false), wrong ? UrlGate.WRONG : 1);
            CHECK.due("resolve with " + b, Check.resolveFour(gate, "x" + (char) b + "y", 0), wrong ? UrlGate.WRONG : 1);
        }
        fails(UrlGate.WRONG, "1.2.3 .4", "1.2.3.4^", "1.2.3.256|");
        hosts("~", "~");
        hosts("!", "!");
        fails(UrlGate.WRONG, "\u007f", "a\u007f", "\u0080", "\u00ff");
    }

    /** That bytes 0 .. 32 at both ends go, and 9, 10, 13, is said of READING alone (section 1). */
    private static void nothingGoesAtTheEnds() {
        for (int b = 0; b <= 32; b++) {
            UrlGate gate = new UrlGate();
            for (String text : new String[] {(char) b + "a", "a" + (char) b, (char) b + "1.2.3.4", "1.2.3.4" + (char) b, (char) b + "[::1]", "" + (char) b}) {
                CHECK.due("list with " + b + " at an end", Check.list(gate, text, false), UrlGate.WRONG);
                CHECK.due("resolve with " + b + " at an end", Check.resolveFour(gate, text, 0), UrlGate.WRONG);
            }
            CHECK.due("list with " + b + " behind ]", Check.list(gate, "[::1]" + (char) b, false), UrlGate.SIX);
            CHECK.due("list with " + b + " in [ ]", Check.list(gate, "[" + (char) b + "::1]", false), UrlGate.SIX);
            CHECK.due("a RECORD with " + b + " at both ends", Check.read(gate, 0, UrlGate.NONE, (char) b + "ws://a" + (char) b), 0);
            CHECK.due("nothing is listed", gate.clear(), 0);
        }
    }

    /** "all in LOW" */
    private static void low() {
        hosts("AZ", "az");
        hosts("%41%5A", "az");
        hosts("aZ.Az", "az.az");
        hosts("`{", "`{");
    }

    /** "without bytes: WRONG" - a RECORD's is NO_HOST before. */
    private static void withoutBytes() {
        UrlGate gate = new UrlGate();
        CHECK.due("list of nothing", gate.list(false), UrlGate.WRONG);
        CHECK.due("open list of nothing", gate.list(true), UrlGate.WRONG);
        CHECK.due("resolve of nothing", gate.resolve(4, 0, 0, 0, 0), UrlGate.WRONG);
        CHECK.due("a RECORD's", Check.host(""), String.valueOf(UrlGate.NO_HOST));
    }

    /** "a part between points that begins with xn-- : WRONG" */
    private static void foreignParts() {
        fails(UrlGate.WRONG, "xn--", "xn--a", "XN--a", "Xn--", "a.xn--", "a.xn--b.c", ".xn--", "xn--.", "xn--.1", "%78%6e%2d%2d", "a%2exn--",
            "1.xn--1");
        for (String text : new String[] {"xn-", "xn-a-", "xn", "x", "axn--", "a.bxn--", "xn.--", "-xn--", "xn-.-", "x.n--"}) {
            hosts(text, text);
        }
    }

    /** "Its PARTS are what is between points, but for a last one without bytes (if it is not the only one)." */
    private static void lastPartWithoutBytes() {
        hosts("1.2.3.4.", "1.2.3.4");
        hosts("1.", "0.0.0.1");
        hosts("0x.", "0.0.0.0");
        hosts(".", ".");
        hosts("..", "..");
        hosts("1..", "1..");
        hosts("1.2.3.4..", "1.2.3.4..");
        hosts("a.", "a.");
        hosts("a..", "a..");
        fails(UrlGate.FOUR, "1.2.3.4.5.", "256.256.", ".1.", "a.1.");
    }

    /** "If its last PART has digits alone (one at least), or is 0x .., it is an address of FOUR, else a NAME" */
    private static void nameOrFour() {
        for (String name : new String[] {"1a", "a1", "1.a", "1.2.3.a", "1.2.3.4a", "0xg", "1.0xg", "0x1g", "x1", "00x1", "1x", "0b1", "1e1", "-1",
            "+1", "1_", "a.b1", "1-2", "256.256.256.256.a", "0xx", "1.2.3.0x-"}) {
            hosts(name, name);
        }
        fails(UrlGate.FOUR, "a.1", "a.b.c.d.e.1", "a.0x", "a.0xf", "-.1", "1a.1", ".1", "..1", "1..1", "a.0X1F");
        hosts("0", "0.0.0.0");
        hosts("9", "0.0.0.9");
        hosts("0xf", "0.0.0.15");
    }

    /** "0x and digits of base 16 (none: 0)" */
    private static void emptyHex() {
        hosts("0x", "0.0.0.0");
        hosts("0X", "0.0.0.0");
        hosts("0x.1", "0.0.0.1");
        hosts("1.0x", "1.0.0.0");
        hosts("0x.0x.0x.0x", "0.0.0.0");
        fails(UrlGate.FOUR, "0x.0x.0x.0x.0x");
    }

    /** "at most 4 PARTS (else FOUR)" */
    private static void atMostFourParts() {
        hosts("0.0.0.0", "0.0.0.0");
        fails(UrlGate.FOUR, "0.0.0.0.0", "1.2.3.4.5", "1.2.3.4.5.6", "0.0.0.0.0.", "a.2.3.4.5", "1.2.3.4.0x");
    }

    /** "the last below 256^(5 - n), n being how many" - n = 1. */
    private static void onePart() {
        hosts("4294967294", "255.255.255.254");
        hosts("4294967295", "255.255.255.255");
        hosts("0xFFFFFFFF", "255.255.255.255");
        hosts("037777777777", "255.255.255.255");
        hosts("2147483647", "127.255.255.255");
        hosts("2147483648", "128.0.0.0");
        hosts("255", "0.0.0.255");
        hosts("256", "0.0.1.0");
        hosts("65536", "0.1.0.0");
        hosts("16777216", "1.0.0.0");
        fails(UrlGate.FOUR, "4294967296", "4294967297", "0x100000000", "040000000000", "9999999999", "18446744073709551616",
            "18446744073709551617", "36893488147419103232", "0x10000000000000000", "0x10000000000000001", "9".repeat(250), "0x" + "f".repeat(250));
        hosts("0x" + "0".repeat(250) + "1", "0.0.0.1");
        hosts("0".repeat(250) + "1", "0.0.0.1");
    }

    /** n = 2. */
    private static void twoParts() {
        hosts("1.16777214", "1.255.255.254");
        hosts("1.16777215", "1.255.255.255");
        hosts("255.16777215", "255.255.255.255");
        hosts("1.0xffffff", "1.255.255.255");
        hosts("1.65536", "1.1.0.0");
        fails(UrlGate.FOUR, "1.16777216", "1.16777217", "1.0x1000000", "1.4294967295", "1.4294967296", "1.18446744073709551616");
    }

    /** n = 3. */
    private static void threeParts() {
        hosts("1.2.65534", "1.2.255.254");
        hosts("1.2.65535", "1.2.255.255");
        hosts("255.255.65535", "255.255.255.255");
        hosts("1.2.256", "1.2.1.0");
        fails(UrlGate.FOUR, "1.2.65536", "1.2.65537", "1.2.0x10000", "1.2.16777215", "1.2.4294967296");
    }

    /** n = 4. */
    private static void fourParts() {
        hosts("1.2.3.254", "1.2.3.254");
        hosts("1.2.3.255", "1.2.3.255");
        hosts("1.2.3.0xff", "1.2.3.255");
        hosts("1.2.3.0377", "1.2.3.255");
        fails(UrlGate.FOUR, "1.2.3.256", "1.2.3.257", "1.2.3.0x100", "1.2.3.0400", "1.2.3.65535", "1.2.3.4294967296");
    }

    /** "FOUR as four numbers with points between" - each of them in each place. */
    private static void fourWritten() {
        for (int n = 0; n < 256; n++) {
            for (int k = 0; k < 4; k++) {
                int[] four = {7, 7, 7, 7};
                four[k] = n;
                long bits = (long) four[0] << 24 | four[1] << 16 | four[2] << 8 | four[3];
                CHECK.due("the " + k + "th is " + n, Check.host(String.valueOf(bits)), four[0] + "." + four[1] + "." + four[2] + "." + four[3]);
            }
        }
    }

    /** "All but the last below 256" */
    private static void partsBeforeTheLast() {
        hosts("255.1", "255.0.0.1");
        hosts("255.255.1", "255.255.0.1");
        hosts("255.255.255.1", "255.255.255.1");
        fails(UrlGate.FOUR, "256.1", "256.1.1", "1.256.1", "256.1.1.1", "1.256.1.1", "1.1.256.1", "0x100.1", "0400.1", "4294967296.1",
            "4294967297.1", "18446744073709551617.1.1.1");
    }

    /** "or 0 and digits of base 8, or digits (at least one; other bytes: FOUR)" */
    private static void bases() {
        hosts("07", "0.0.0.7");
        hosts("010", "0.0.0.8");
        hosts("00", "0.0.0.0");
        hosts("0010", "0.0.0.8");
        hosts("0x10", "0.0.0.16");
        hosts("0xaF", "0.0.0.175");
        hosts("10", "0.0.0.10");
        hosts("010.0x10.10.0", "8.16.10.0");
        hosts("0x0a.012.10", "10.10.0.10");
        fails(UrlGate.FOUR, "08", "09", "018", "1.08", "08.1", "0778.1", "00x1.1");
    }

    private static void otherBytesInFour() {
        fails(UrlGate.FOUR, "a.1", "1.a.1", "1a.1", "0xg.1", "-1.1", "+1.1", "1..1", ".1", "1.2.3..4", "1_.1", "1e1.1", "f.0x1", "0x-1.1", "x.1",
            "0y1.1");
        for (int b = 33; b < 127; b++) {
            char c = (char) b;
            if ("#%/:<>?@[\\]^|.".indexOf(c) < 0 && (c < '0' || c > '9')) {
                fails("1" + c + ".1", UrlGate.FOUR);
            }
        }
    }

    /** "one to four digits of base 16 each, : between" */
    private static void digitsOfSix() {
        hosts("[1:22:333:4444:5:6:7:8]", "[1:22:333:4444:5:6:7:8]");
        hosts("[ffff::FFFF]", "[ffff::ffff]");
        hosts("[0000::0001]", "[::1]");
        fails(UrlGate.SIX, "[11111::]", "[::11111]", "[1:2:3:4:5:6:7:00008]", "[00000::]", "[::fffff]", "[:1:2:3:4:5:6:7]", "[1:2:3:4:5:6:7:]",
            "[:1::]", "[::1:]", "[1:2:3::4:]");
        for (int b = 33; b < 256; b++) {
            char c = (char) b;
            if ("/\\?#@]:.".indexOf(c) < 0) {
                boolean digit = (c >= '0' && c <= '9') || (c >= 'a' && c <= 'f') || (c >= 'A' && c <= 'F');
                char small = c >= 'A' && c <= 'F' ? (char) (c + 32) : c;
                hosts("[::1" + c + "]", digit ? "[::1" + small + "]" : String.valueOf(UrlGate.SIX));
                hosts("[1" + c + "::]", digit ? "[1" + small + "::]" : String.valueOf(UrlGate.SIX));
            }
        }
    }

    /** "eight numbers of 16 bits" */
    private static void eightNumbers() {
        hosts("[1:2:3:4:5:6:7:8]", "[1:2:3:4:5:6:7:8]");
        hosts("[0:0:0:0:0:0:0:0]", "[::]");
        fails(UrlGate.SIX, "[1:2:3:4:5:6:7]", "[1:2:3:4:5:6:7:8:9]", "[1]", "[1:2]", "[1:2:3:4:5:6:7:8:9:a:b:c:d:e:f:1]");
    }

    /** "once :: stands for one or more that are 0 (also at either end)" */
    private static void gapAtEitherEnd() {
        hosts("[::]", "[::]");
        hosts("[::8]", "[::8]");
        hosts("[1::]", "[1::]");
        hosts("[::7:8]", "[::7:8]");
        hosts("[1:2::]", "[1:2::]");
        hosts("[::3:4:5:6:7:8]", "[::3:4:5:6:7:8]");
        hosts("[1:2:3:4:5:6::]", "[1:2:3:4:5:6::]");
        fails(UrlGate.SIX, "[:]", "[:1]", "[1:]", "[:1:2:3:4:5:6:7:8]", "[1:2:3:4:5:6:7:8:]", "[:2:3:4:5:6:7:8]");
    }

    private static void gapForOneNumber() {
        hosts("[::2:3:4:5:6:7:8]", "[0:2:3:4:5:6:7:8]");
        hosts("[1::3:4:5:6:7:8]", "[1:0:3:4:5:6:7:8]");
        hosts("[1:2:3:4:5:6::8]", "[1:2:3:4:5:6:0:8]");
        hosts("[1:2:3:4:5:6:7::]", "[1:2:3:4:5:6:7:0]");
        hosts("[1:2:3:4:5::1.2.3.4]", "[1:2:3:4:5:0:102:304]");
    }

    private static void gapForNone() {
        fails(UrlGate.SIX, "[::1:2:3:4:5:6:7:8]", "[1::2:3:4:5:6:7:8]", "[1:2:3:4::5:6:7:8]", "[1:2:3:4:5:6:7::8]", "[1:2:3:4:5:6:7:8::]",
            "[1:2:3:4:5:6::1.2.3.4]", "[::1:2:3:4:5:6:1.2.3.4]", "[1::2:3:4:5:6:7:8:9]");
    }

    private static void gapTwice() {
        fails(UrlGate.SIX, "[::::]", "[:::]", "[::1::]", "[1::2::]", "[::1::2]", "[1::2::3]", "[1:::2]", "[1::::2]", "[:::1]", "[1:::]",
            "[1::2::1.2.3.4]", "[::1:2:3::4:5]");
    }

    /** "the last two may be four numbers with points between, .. up to 255" */
    private static void fourNumbersInSix() {
        hosts("[::0.0.0.0]", "[::]");
        hosts("[::255.255.255.255]", "[::ffff:ffff]");
        hosts("[::254.9.10.99]", "[::fe09:a63]");
        hosts("[::100.199.200.249]", "[::64c7:c8f9]");
        hosts("[1:2:3:4:5:6:7.8.9.10]", "[1:2:3:4:5:6:708:90a]");
        hosts("[1:2:3:4:5:6:0.0.0.0]", "[1:2:3:4:5:6::]");
        hosts("[1::7:1.2.3.4]", "[1::7:102:304]");
        hosts("[::ffff:1.2.3.4]", "[::ffff:102:304]");
        for (int k = 0; k < 4; k++) {
            for (String number : new String[] {"256", "257", "260", "300", "999", "1000", "2550", "4294967296", "99999999999999999999"}) {
                String[] numbers = {"1", "2", "3", "4"};
                numbers[k] = number;
                fails("[::" + String.join(".", numbers) + "]", UrlGate.SIX);
                numbers[k] = "255";
                CHECK.due("255 at " + k, Check.host("[::" + String.join(".", numbers) + "]"),
                    "[::" + (k == 0 ? "ff02:304" : k == 1 ? "1ff:304" : k == 2 ? "102:ff04" : "102:3ff") + "]");
            }
        }
    }

    private static void fourNumbersElsewhere() {
        fails(UrlGate.SIX, "[1.2.3.4]", "[1.2.3.4::]", "[1:1.2.3.4::]", "[::1.2.3.4:5]", "[1.2.3.4:5:6:7:8:9:a]", "[1:2:3:4:5:1.2.3.4:8]",
            "[1:2:3:4:5:1.2.3.4]", "[1:2:3:4:5:6:7:1.2.3.4]", "[::1.2.3]", "[::1.2]", "[::1.]", "[::1.2.3.]", "[::.2.3.4]", "[::1..3.4]",
            "[::1.2.3.4.]", "[::1.2.3.4.5]", "[::.]", "[::...]", "[.::]", "[::1.2.3.4::]", "[::1.2.3.a]", "[::a.2.3.4]", "[::1.2.3.4 ]",
            "[::1.2.3.-4]", "[::1.2.3.+4]", "[::1.2.3.0x4]", "[1:2:3:4:5:6:7:8:1.2.3.4]");
    }

    /** "each 0, or digits that begin with no 0" */
    private static void zerosBeforeDigits() {
        for (String number : new String[] {"00", "01", "09", "000", "001", "010", "0255"}) {
            fails(UrlGate.SIX, "[::" + number + ".2.3.4]", "[::1." + number + ".3.4]", "[::1.2." + number + ".4]", "[::1.2.3." + number + "]");
        }
        hosts("[::0.2.3.4]", "[::2:304]");
        hosts("[::1.0.3.4]", "[::100:304]");
        hosts("[::1.2.0.4]", "[::102:4]");
        hosts("[::1.2.3.0]", "[::102:300]");
    }

    /** "numbers without needless 0s in digits 0 .. 9 a .. f, the first longest row of two or more 0s as ::" */
    private static void sixWritten() {
        hosts("[1:0:3:4:5:6:7:8]", "[1:0:3:4:5:6:7:8]");
        hosts("[0:2:3:4:5:6:7:8]", "[0:2:3:4:5:6:7:8]");
        hosts("[1:2:3:4:5:6:7:0]", "[1:2:3:4:5:6:7:0]");
        hosts("[1:0:0:4:5:6:7:8]", "[1::4:5:6:7:8]");
        hosts("[0:0:3:4:5:6:7:8]", "[::3:4:5:6:7:8]");
        hosts("[1:2:3:4:5:6:0:0]", "[1:2:3:4:5:6::]");
        hosts("[0:0:3:0:0:6:0:0]", "[::3:0:0:6:0:0]");
        hosts("[0:2:0:0:5:0:0:8]", "[0:2::5:0:0:8]");
        hosts("[0:0:3:0:0:0:7:8]", "[0:0:3::7:8]");
        hosts("[1:0:0:4:5:0:0:0]", "[1:0:0:4:5::]");
        hosts("[0:0:0:4:0:0:0:0]", "[0:0:0:4::]");
        hosts("[0:0:0:0:5:0:0:0]", "[::5:0:0:0]");
        hosts("[0:0:0:0:0:0:0:8]", "[::8]");
        hosts("[1:0:0:0:0:0:0:0]", "[1::]");
        hosts("[1:0:0:0:0:0:0:8]", "[1::8]");
        hosts("[0:2:0:4:0:6:0:8]", "[0:2:0:4:0:6:0:8]");
        hosts("[000F:00A0:0B00:C000:0DEF:0:1000:0100]", "[f:a0:b00:c000:def:0:1000:100]");
    }

    /** Just the digits that a number needs, whichever number it is. */
    private static void sixDigits() {
        for (int one = 1; one <= 0x1000; one *= 16) {
            for (int n = 1; n < 16; n++) {
                for (int number : new int[] {n * one - 1, n * one, n * one + 1}) {
                    String digits = Integer.toHexString(number);
                    CHECK.due("a number " + digits, Check.host(String.format("[1:%04X::1]", number)), number == 0 ? "[1::1]" : "[1:" + digits + "::1]");
                }
            }
        }
    }
}
