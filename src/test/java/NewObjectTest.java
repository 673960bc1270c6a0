/** Promise 1: an empty TEXT, no RECORDS, nothing listed. */
public final class NewObjectTest {
    public static void main(String[] args) {
        Check check = new Check();
        UrlGate gate = new UrlGate();
        check.due("at(0)", gate.at(0), UrlGate.NONE);
        check.due("clear()", gate.clear(), 0);
        for (int place = 0; place < 4; place++) {
            check.due("write", gate.write(place), UrlGate.BAD);
            check.due("size", gate.size(place, 0), UrlGate.BAD);
            check.due("part", gate.part(place, 0, 0), UrlGate.BAD);
            check.due("told", gate.told(place, 0), UrlGate.BAD);
            check.due("number", gate.number(place, 0), UrlGate.BAD);
            check.due("same", gate.same(place, place), UrlGate.BAD);
            check.due("pass", gate.pass(place), UrlGate.BAD);
            check.due("read", gate.read(0, place), UrlGate.BAD);
        }
        check.due("erase()", gate.erase(), 0);
        check.due("read of nothing", gate.read(0, UrlGate.NONE), UrlGate.NO_SCHEME);
        check.due("list of nothing", gate.list(false), UrlGate.WRONG);
        check.due("a first range", gate.range(4, 0, 0, 0, 0, 0), 1);

        Check.read(gate, 0, UrlGate.NONE, "http://a/");
        Check.list(gate, "a", false);
        Check.type(gate, "left over");
        UrlGate other = new UrlGate();
        check.due("another's erase()", other.erase(), 0);
        check.due("another's write(0)", other.write(0), UrlGate.BAD);
        check.due("another's clear()", other.clear(), 0);
        check.finish();
    }
}
