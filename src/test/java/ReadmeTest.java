import java.io.IOException;
import java.lang.reflect.Field;
import java.lang.reflect.Method;
import java.lang.reflect.Modifier;
import java.nio.charset.StandardCharsets;
import java.nio.file.Files;
import java.nio.file.Path;

/** README.md's example answers what stands behind its calls, and README.md names all of the face. */
public final class ReadmeTest {
    private static final Check CHECK = new Check();

    public static void main(String[] args) throws IOException {
        String readme = Files.readString(Path.of("README.md"), StandardCharsets.UTF_8);
        example(readme);
        face(readme);
        CHECK.finish();
    }

    /** A call of the example: it stands in README.md with this answer, and it answers so. */
    private static void line(String readme, String call, int got, int want) {
        String shown = want >= 'a' ? "'" + (char) want + "'" : String.valueOf(want);
        boolean stands = readme.lines().anyMatch(line -> line.matches("\\Q" + call + ";\\E +// \\Q" + shown + "\\E(\\D.*)?"));
        CHECK.due("README.md has " + call + " with " + shown, stands ? 1 : 0, 1);
        CHECK.due(call, got, want);
    }

    private static void example(String readme) {
        UrlGate gate = new UrlGate();
        for (byte b : "HTTP://A.b:80/x/../y".getBytes(StandardCharsets.ISO_8859_1)) {
            gate.type(b, 1);
        }
        line(readme, "gate.read(0, UrlGate.NONE)", gate.read(0, UrlGate.NONE), 0);
        line(readme, "gate.write(0)", gate.write(0), 12);
        CHECK.due("THE TEXT", Check.text(gate), "http://a.b/y");
        line(readme, "gate.at(0)", gate.at(0), 'h');
        line(readme, "gate.erase()", gate.erase(), 12);
        gate.type(0x7a2f2e2eL, 4);
        CHECK.due("THE TEXT", Check.text(gate), "../z");
        line(readme, "gate.read(1, 0)", gate.read(1, 0), 0);
        CHECK.due("place 1", Check.written(gate, 1), "http://a.b/z");
        line(readme, "gate.size(1, 4)", gate.size(1, 4), 2);
        line(readme, "gate.part(1, 4, 1)", gate.part(1, 4, 1), 'z');
        line(readme, "gate.told(1, 1)", gate.told(1, 1), 80);
        line(readme, "gate.same(0, 1)", gate.same(0, 1), 1);
        gate.type(0x622e61L, 3);
        CHECK.due("THE TEXT", Check.text(gate), "a.b");
        line(readme, "gate.list(true)", gate.list(true), 1);
        gate.type(0x622e61L, 3);
        line(readme, "gate.resolve(4, 0x0a000001, 0, 0, 0)", gate.resolve(4, 0x0a000001, 0, 0, 0), 1);
        line(readme, "gate.range(4, 0x0a000000, 0, 0, 0, 8)", gate.range(4, 0x0a000000, 0, 0, 0, 8), 1);
        line(readme, "gate.pass(1)", gate.pass(1), 0);
        line(readme, "gate.clear()", gate.clear(), 3);
    }

    private static void face(String readme) {
        for (Method method : UrlGate.class.getDeclaredMethods()) {
            if (Modifier.isPublic(method.getModifiers())) {
                CHECK.due("README.md names " + method.getName(), readme.contains("`" + method.getName() + "(") ? 1 : 0, 1);
            }
        }
        for (Field field : UrlGate.class.getDeclaredFields()) {
            if (Modifier.isPublic(field.getModifiers())) {
                CHECK.due("README.md names " + field.getName(), readme.contains("`" + field.getName() + "`") ? 1 : 0, 1);
            }
        }
    }
}
