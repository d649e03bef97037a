import java.io.IOException;
import java.lang.reflect.Constructor;
import java.lang.reflect.Field;
import java.lang.reflect.Method;
import java.lang.reflect.Modifier;
import java.nio.file.Files;
import java.nio.file.Path;
import java.util.ArrayList;
import java.util.HashSet;
import java.util.List;
import java.util.Set;
import java.util.regex.Matcher;
import java.util.regex.Pattern;

/** What of ../shared/LANGUAGE.md can be seen from outside and from the words of the file. */
public final class LanguageTest {
    private static final Due DUE = new Due("language");

    public static void main(String[] args) throws IOException {
        face();
        for (Class<?> one : classes()) {
            members(one);
        }
        words(Files.readString(Path.of("src/main/java/UncleAges.java")));
        DUE.end();
    }

    private static List<Class<?>> classes() {
        List<Class<?>> all = new ArrayList<>(List.of(UncleAges.class.getDeclaredClasses()));
        all.add(UncleAges.class);
        return all;
    }

    private static void face() {
        DUE.is("1: the class is final", Modifier.isFinal(UncleAges.class.getModifiers()), true);
        for (Constructor<?> one : UncleAges.class.getDeclaredConstructors()) {
            DUE.is("1: public constructor without arguments", one.getParameterCount(), 0);
        }
        Set<String> shown = new HashSet<>();
        for (Method one : UncleAges.class.getDeclaredMethods()) {
            boolean isPublic = Modifier.isPublic(one.getModifiers());
            DUE.is("1: " + one + " is public or private", isPublic || Modifier.isPrivate(one.getModifiers()), true);
            if (isPublic) {
                shown.add(one.getName());
            }
        }
        DUE.is("1: the public calls", shown.size(), 44);
        for (Class<?> one : classes()) {
            for (Method method : one.getDeclaredMethods()) {
                boolean isShown = one == UncleAges.class && Modifier.isPublic(method.getModifiers());
                DUE.is("1: " + method + " bears a public name", !isShown && shown.contains(method.getName()), false);
            }
        }
        for (Field one : UncleAges.class.getDeclaredFields()) {
            boolean isPublic = Modifier.isPublic(one.getModifiers());
            DUE.is("1: " + one, isPublic ? one.getName().equals("NONE") : Modifier.isPrivate(one.getModifiers()), true);
        }
        DUE.is("11: at most twelve classes", classes().size() <= 12, true);
    }

    private static void members(Class<?> one) {
        int fields = 0;
        for (Field field : one.getDeclaredFields()) {
            boolean isStatic = Modifier.isStatic(field.getModifiers());
            DUE.is("5: " + field, isStatic && !Modifier.isFinal(field.getModifiers()), false);
            fields += isStatic ? 0 : 1;
        }
        DUE.is("11: fields of " + one, fields <= 20, true);
        for (Method method : one.getDeclaredMethods()) {
            DUE.is("11: parameters of " + method, method.getParameterCount() <= 7, true);
        }
        DUE.is("2: " + one + " is static", one == UncleAges.class || Modifier.isStatic(one.getModifiers()), true);
    }

    private static void words(String source) {
        String code = source.replaceAll("(?s)/\\*.*?\\*/", "").replaceAll("//[^\n]*", "");
        String[] never = {"\\bthrow\\b", "\\bthrows\\b", "\\btry\\b", "\\bcatch\\b", "\\bsynchronized\\b", "\\bassert\\b",
                "->", "::", "\\binstanceof\\b", "Exact\\b", "\\bString\\b", "\\bfloat\\b", "\\bdouble\\b",
                "\\bvolatile\\b", "\\btransient\\b", "\\bnative\\b", "\\bpackage\\b", "\\bequals\\b", "\\bhashCode\\b"};
        for (String word : never) {
            DUE.is("3, 6: " + word, Pattern.compile(word).matcher(code).find(), false);
        }
        Set<String> library = new HashSet<>();
        Matcher used = Pattern.compile("\\b(System|Arrays|Math|Integer|Long|Object|Class|Thread)\\.\\w+").matcher(code);
        while (used.find()) {
            library.add(used.group());
        }
        library.removeAll(Set.of("System.arraycopy", "Arrays.fill", "Math.min", "Math.max", "Math.abs",
                "Integer.bitCount"));
        DUE.is("4: " + library, library.size(), 0);
        Matcher imports = Pattern.compile("import [^;]+;").matcher(code);
        while (imports.find()) {
            DUE.is("4: " + imports.group(), imports.group().equals("import java.util.Arrays;"), true);
        }
        for (int i = 0; i < source.length(); i++) {
            if (source.charAt(i) > 126) {
                DUE.is("4: sign " + i, source.charAt(i), 63);
            }
        }
        methodsAreShort(source.split("\n"));
    }

    private static void methodsAreShort(String[] lines) {
        int start = -1;
        for (int i = 0; i < lines.length; i++) {
            if (lines[i].matches(" {4}( {4})?\\S.*\\) \\{") && !lines[i].matches(".*\\b(if|for|while|switch)\\b.*")) {
                start = i;
            }
            if (start >= 0 && lines[i].matches(" {4}( {4})?\\}")
                    && lines[i].indexOf('}') == lines[start].length() - lines[start].stripLeading().length()) {
                DUE.is("11: " + lines[start].strip(), i - start <= 60, true);
                start = -1;
            }
        }
    }
}
