/** Promise 15: clear. */
public final class ClearTest {
    public static void main(String[] args) {
        Check check = new Check();
        UrlGate gate = new UrlGate();
        check.due("nothing", gate.clear(), 0);
        fill(gate);
        Check.read(gate, 0, UrlGate.NONE, "http://x.a/");
        check.due("it passes", gate.pass(0), 0);
        Check.type(gate, "kept");
        check.due("clear()", gate.clear(), 2 + 3 + 1);
        check.due("clear() again", gate.clear(), 0);
        check.due("the text stays", Check.text(gate), "kept");
        check.due("the record stays", Check.written(gate, 0), "http://x.a/");
        check.due("not listed", gate.pass(0), 3);
        Check.list(gate, "a", true);
        check.due("not resolved", gate.pass(0), 4);
        Check.resolveFour(gate, "x.a", 1);
        check.due("in no range", gate.pass(0), 5);
        gate.range(4, 1, 0, 0, 0, 32);
        check.due("it passes again", gate.pass(0), 0);
        check.due("clear() of three", gate.clear(), 3);
        check.due("not open any more", Check.list(gate, "a", false), 1);
        check.due("not listed any more", gate.pass(0), 3);
        check.due("clear() of one", gate.clear(), 1);
        all(check, gate);
        check.finish();
    }

    private static void fill(UrlGate gate) {
        Check.list(gate, "a", true);
        Check.list(gate, "b", false);
        Check.resolveFour(gate, "x.a", 1);
        Check.resolveFour(gate, "x.a", 2);
        Check.resolveFour(gate, "b", 3);
        gate.range(4, 0, 0, 0, 0, 30);
    }

    private static void all(Check check, UrlGate gate) {
        for (int i = 0; i < 17; i++) {
            Check.list(gate, "a", false);
            Check.resolveFour(gate, "a", i);
            gate.range(6, 0, 0, 0, 0, i);
        }
        check.due("clear() of all", gate.clear(), 12 + 16 + 12);
    }
}
