import java.io.IOException;
import java.nio.charset.StandardCharsets;
import java.nio.file.Files;
import java.nio.file.Path;
import java.util.ArrayList;
import java.util.List;
import java.util.Set;
import java.util.TreeSet;
import java.util.regex.Matcher;
import java.util.regex.Pattern;

/** What of ../shared/LANGUAGE.md can be seen in the class's text: words, the library, and how large things are. */
public final class LanguageTest {
    private static final Check CHECK = new Check();
    private static final Path SOURCE = Path.of("src", "main", "java", "UrlGate.java");
    private static final Pattern NOT_CODE = Pattern.compile(
        "\"(?:\\\\.|[^\"\\\\\n])*\"|'(?:\\\\.|[^'\\\\\n])+'|//[^\n]*|/\\*.*?\\*/", Pattern.DOTALL);
    private static final Pattern METHOD = Pattern.compile(
        "\n( +)((?:public |private |static |final )*)(\\w+(?:\\[\\])?) (\\w+)\\(([^)]*)\\) \\{\n(.*?)\n\\1\\}", Pattern.DOTALL);
    private static final Set<String> LIBRARY = Set.of(
        "Arrays.copyOf", "Arrays.copyOfRange", "Arrays.fill", "System.arraycopy", "Math.min", "Math.max", "Math.abs");

    public static void main(String[] args) throws IOException {
        String code = code(Files.readString(SOURCE, StandardCharsets.ISO_8859_1));
        words(code);
        library(code);
        classes(code);
        methods(code);
        CHECK.finish();
    }

    /** The text without comments; a text has nothing in it, and a character is a 0. */
    private static String code(String all) {
        return NOT_CODE.matcher(all).replaceAll(found -> {
            char first = found.group().charAt(0);
            return first == '/' ? "" : first == '"' ? "\"\"" : "0";
        });
    }

    private static int count(String code, String pattern) {
        Matcher matcher = Pattern.compile(pattern).matcher(code);
        int n = 0;
        while (matcher.find()) {
            n++;
        }
        return n;
    }

    /** Rules 2, 4, 6, 13. */
    private static void words(String code) {
        for (String word : new String[] {"throw", "throws", "try", "catch", "finally", "synchronized", "assert", "volatile", "Thread", "Random",
            "Object", "package", "protected", "equals", "hashCode", "toString", "var", "native", "extends"}) {
            CHECK.due("the word " + word, count(code, "\\b" + word + "\\b"), 0);
        }
        CHECK.due("lambdas", count(code, "->"), 0);
        CHECK.due("references to methods", count(code, "::"), 0);
        CHECK.due("static blocks", count(code, "static\\s*\\{"), 0);
        CHECK.due("texts joined by +", count(code, "\"\"\\s*\\+|\\+\\s*\"\"\\s*\\+"), 0);
        CHECK.due("loops without an end", count(code, "while \\(true\\)|for \\(;;\\)"), 0);
        CHECK.due("static fields that are not final", count(code, "\n +(private )?static (?!final )\\w+(\\[\\])? \\w+( =|;)"), 0);
    }

    /** Rule 4. */
    private static void library(String code) {
        Matcher imports = Pattern.compile("import ([^;]*);").matcher(code);
        while (imports.find()) {
            boolean known = Set.of("java.util.Arrays", "java.util.ArrayList", "java.util.List").contains(imports.group(1));
            CHECK.due("import of " + imports.group(1), known ? 1 : 0, 1);
        }
        Matcher calls = Pattern.compile("\\b(?:Arrays|System|Math|Integer|Long|Character|String)\\.\\w+").matcher(code);
        while (calls.find()) {
            CHECK.due(calls.group(), LIBRARY.contains(calls.group()) ? 1 : 0, 1);
        }
    }

    /** Rules 1, 2 and 11. */
    private static void classes(String code) {
        int all = count(code, "\\b(class|enum|record|interface) \\w+");
        CHECK.due("at most twelve classes", all <= 12 ? 1 : 0, 1);
        CHECK.due("all but one are static, final and private", count(code, "private static final class \\w+ \\{"), all - 1);
        CHECK.due("one is public", count(code, "\npublic final class UrlGate \\{"), 1);
    }

    /** Rules 1 and 11. */
    private static void methods(String code) {
        Set<String> open = new TreeSet<>();
        List<String> hidden = new ArrayList<>();
        Matcher matcher = METHOD.matcher(code);
        int found = 0;
        int from = 0;
        while (matcher.find(from)) {
            found++;
            from = matcher.end();
            String name = matcher.group(4);
            (matcher.group(2).startsWith("public") ? open : hidden).add(name);
            CHECK.due(name + " has at most seven parameters", matcher.group(5).split(",").length <= 7 ? 1 : 0, 1);
            CHECK.due(name + " has at most sixty lines", matcher.group(6).split("\n").length <= 60 ? 1 : 0, 1);
        }
        CHECK.due("public methods", open.size(), 15);
        CHECK.due("methods were found", found > 60 ? 1 : 0, 1);
        for (String name : hidden) {
            CHECK.due("another method " + name, open.contains(name) ? 1 : 0, 0);
        }
    }
}
