import java.io.IOException;
import java.lang.reflect.Constructor;
import java.lang.reflect.Field;
import java.lang.reflect.Method;
import java.lang.reflect.Modifier;
import java.nio.charset.StandardCharsets;
import java.nio.file.Files;
import java.nio.file.Path;
import java.util.HashSet;
import java.util.Set;
import java.util.regex.Matcher;
import java.util.regex.Pattern;

/** Rules of LANGUAGE.md that can be looked up in the source or in the compiled class. */
final class LanguageTest {
    private static final Check CHECK = new Check("LanguageTest");
    private static final Set<String> FACE = Set.copyOf(Calls.NAMES);
    private static final Set<String> CONSTANTS = Set.of("BAD", "STATE", "FULL", "NONE", "NO");

    public static void main(String[] args) throws IOException {
        Path file = Path.of("src/main/java/ChoristerKeys.java");
        String source = new String(Files.readAllBytes(file), StandardCharsets.ISO_8859_1);
        String code = source.replaceAll("(?s)/\\*.*?\\*/", " ").replaceAll("//[^\n]*", " ");
        words(code);
        forms(code);
        face();
        inside();
        CHECK.end();
    }

    private static void words(String code) {
        for (String word : new String[] {"import", "package", "throw", "throws", "try", "catch", "finally",
            "synchronized", "assert", "instanceof", "protected", "static \\{", "Exact", "System", "Thread",
            "Random", "var", "yield", "equals", "hashCode", "toString", "native", "volatile", "transient"}) {
            Matcher found = Pattern.compile("\\b" + word).matcher(code);
            CHECK.holds("no \"" + word + "\"", !found.find());
        }
    }

    private static void forms(String code) {
        CHECK.holds("no lambda, no arrow", !code.contains("->"));
        CHECK.holds("no method reference", !code.contains("::"));
        CHECK.holds("no texts", !code.contains("\""));
        CHECK.holds("signs 1 to 127", code.chars().allMatch(sign -> sign >= 1 && sign <= 127));
        CHECK.holds("all classes inside are private, static, final",
            count(code, "\\bclass\\b") == 1 + count(code, "private static final class"));
        CHECK.holds("twelve classes at most", count(code, "\\bclass\\b") <= 12);
        int longest = 0;
        int since = -1;
        String[] lines = code.split("\n");
        for (int i = 0; i < lines.length; i++) {
            if (lines[i].matches("\\s+[\\w\\[\\] ]+\\([\\w\\[\\], ]*\\) \\{")) {
                since = i;
            }
            if (since >= 0 && lines[i].matches("    (    )?\\}")) {
                longest = Math.max(longest, i - since + 1);
            }
        }
        CHECK.holds("methods stay short: " + longest, longest > 10 && longest <= 60);
    }

    private static int count(String code, String what) {
        int number = 0;
        Matcher found = Pattern.compile(what).matcher(code);
        while (found.find()) {
            number++;
        }
        return number;
    }

    private static void face() {
        Set<String> methods = new HashSet<>();
        for (Method method : ChoristerKeys.class.getDeclaredMethods()) {
            if (!Modifier.isPrivate(method.getModifiers())) {
                CHECK.holds(method + " is public, not static",
                    Modifier.isPublic(method.getModifiers()) && !Modifier.isStatic(method.getModifiers()));
                CHECK.holds(method.getName() + " stands once", methods.add(method.getName()));
            } else {
                CHECK.holds(method.getName() + " has a name of its own", !FACE.contains(method.getName()));
            }
        }
        CHECK.holds("the face's methods", methods.equals(FACE));
        Set<String> constants = new HashSet<>();
        for (Field field : ChoristerKeys.class.getDeclaredFields()) {
            if (!Modifier.isPrivate(field.getModifiers())) {
                constants.add(field.getName());
            }
        }
        CHECK.holds("the face's constants", constants.equals(CONSTANTS));
        CHECK.due("constructors", ChoristerKeys.class.getDeclaredConstructors().length, 1);
        for (Constructor<?> constructor : ChoristerKeys.class.getDeclaredConstructors()) {
            CHECK.holds("a public one", Modifier.isPublic(constructor.getModifiers()));
        }
        CHECK.holds("final", Modifier.isFinal(ChoristerKeys.class.getModifiers()));
    }

    private static void inside() {
        for (Class<?> inner : ChoristerKeys.class.getDeclaredClasses()) {
            CHECK.holds(inner + " is static", Modifier.isStatic(inner.getModifiers()));
            int fields = 0;
            for (Field field : inner.getDeclaredFields()) {
                boolean isStatic = Modifier.isStatic(field.getModifiers());
                fields += isStatic ? 0 : 1;
                CHECK.holds(field + " is final if static", !isStatic || Modifier.isFinal(field.getModifiers()));
            }
            CHECK.holds(inner + " has few fields", fields <= 20);
            for (Method method : inner.getDeclaredMethods()) {
                CHECK.holds(method + " has a name of its own", !FACE.contains(method.getName()));
                CHECK.holds(method + " takes seven at most", method.getParameterCount() <= 7);
            }
        }
    }
}
