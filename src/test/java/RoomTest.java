import java.lang.management.ManagementFactory;
import java.util.function.Consumer;

/** All calls of a run live in one room: the dearest runs of 512 calls make little. */
public final class RoomTest {
    private static final Check CHECK = new Check();
    // A small part of the room, which has some 600,000 objects and 7.3 million fields and elements.
    private static final long MOST_BYTES = 500_000;
    private static final long EIGHT_BYTES = 0x6161616161616161L;

    public static void main(String[] args) {
        if (!(ManagementFactory.getThreadMXBean() instanceof com.sun.management.ThreadMXBean)) {
            return;
        }
        makesLittle("reads of short texts", RoomTest::shortReads);
        makesLittle("reads of long texts", RoomTest::longReads);
        makesLittle("reads up to FULL", RoomTest::readsUpToFull);
        makesLittle("writes", RoomTest::writes);
        makesLittle("lists", RoomTest::lists);
        makesLittle("resolves", RoomTest::resolves);
        makesLittle("ranges", RoomTest::ranges);
        CHECK.finish();
    }

    private static void makesLittle(String what, Consumer<UrlGate> run) {
        run.accept(new UrlGate());
        var bean = (com.sun.management.ThreadMXBean) ManagementFactory.getThreadMXBean();
        long before = bean.getCurrentThreadAllocatedBytes();
        run.accept(new UrlGate());
        long made = bean.getCurrentThreadAllocatedBytes() - before;
        CHECK.due(what + " make " + made + " bytes; few enough", made <= MOST_BYTES ? 1 : 0, 1);
    }

    private static void base(UrlGate gate) {
        gate.type(0x612f2f3a70747468L, 8);
        gate.read(0, UrlGate.NONE);
    }

    private static void shortReads(UrlGate gate) {
        base(gate);
        for (int i = 0; i < 255; i++) {
            gate.type('/' + i, 1);
            gate.read(i & 3, 0);
        }
    }

    private static void longReads(UrlGate gate) {
        for (int i = 0; i < 13; i++) {
            base(gate);
            for (int k = 0; k < 37; k++) {
                gate.type(0x3c3c3c3c3c3c3c3cL, 8);
            }
            gate.read(i & 3, 0);
        }
    }

    private static void readsUpToFull(UrlGate gate) {
        base(gate);
        for (int i = 0; i < 170; i++) {
            gate.type(0x2f61616161616161L, 8);
            gate.type(0x2f3c3c3c3c3c3c3cL, 8);
            gate.read(0, 0);
        }
    }

    private static void writes(UrlGate gate) {
        base(gate);
        for (int i = 0; i < 30; i++) {
            gate.type(EIGHT_BYTES, 8);
        }
        gate.read(0, 0);
        for (int i = 0; i < 470; i++) {
            gate.write(0);
        }
    }

    private static void lists(UrlGate gate) {
        for (int i = 0; i < 250; i++) {
            gate.type(EIGHT_BYTES, 8);
            if (gate.list(true) == 12) {
                gate.clear();
            }
        }
    }

    private static void resolves(UrlGate gate) {
        for (int i = 0; i < 250; i++) {
            gate.type(EIGHT_BYTES, 8);
            if (gate.resolve(4, i, 0, 0, 0) == 16) {
                gate.clear();
            }
        }
    }

    private static void ranges(UrlGate gate) {
        for (int i = 0; i < 500; i++) {
            if (gate.range(6, i, i, i, i, 128) == 12) {
                gate.clear();
            }
        }
    }
}
