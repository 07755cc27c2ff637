import java.io.IOException;
import java.lang.reflect.Field;
import java.lang.reflect.Method;
import java.lang.reflect.Modifier;
import java.nio.charset.StandardCharsets;
import java.nio.file.Files;
import java.nio.file.Path;
import java.util.ArrayList;
import java.util.HashSet;
import java.util.List;
import java.util.Set;
import java.util.TreeSet;
import java.util.regex.Matcher;
import java.util.regex.Pattern;

/** What of ../shared/LANGUAGE.md and of the document's face can be seen from the class and its text. */
public final class LanguageTest {
    private static final Path SOURCE = Path.of("src/main/java/CoachmenFace.java");
    private static final Path DOCUMENT = Path.of("../shared/DOC.md");

    public static void main(String[] args) throws IOException {
        String text = Files.readString(SOURCE, StandardCharsets.UTF_8);
        words(text);
        library(text);
        face();
        List<Class<?>> all = new ArrayList<>();
        all.add(CoachmenFace.class);
        for (Class<?> inside : CoachmenFace.class.getDeclaredClasses()) {
            Check.due(inside.getName() + " is static", Modifier.isStatic(inside.getModifiers()));
            Check.due(inside.getName() + " is not public", !Modifier.isPublic(inside.getModifiers()));
            Check.due(inside.getName() + " has no class inside", inside.getDeclaredClasses().length == 0);
            all.add(inside);
        }
        Check.due("some twelve classes", all.size() <= 12);
        for (Class<?> one : all) {
            members(one);
        }
        Check.end();
    }

    /** Rules 3, 5, 6 and 13: words and signs that must not stand there. */
    private static void words(String text) {
        String code = text.replaceAll("(?s)/\\*.*?\\*/", "").replaceAll("//[^\n]*", "").replaceAll("'(\\\\.|[^'])'", "0");
        String[] never = {
            "\\bthrow\\b", "\\bthrows\\b", "\\btry\\b", "\\bcatch\\b", "\\bsynchronized\\b", "\\bassert\\b", "->", "::",
            "\\bprotected\\b", "\\bpackage\\b", "\\bhashCode\\b", "\\btoString\\b", "\\bequals\\b", "\\w+Exact\\b",
            "\\bThread\\b", "\\bRandom\\b", "\\bSystem\\.(?!arraycopy)", "\\bMath\\.(random|sqrt|pow)", "\\bstatic\\s*\\{",
            "\\b(Map|Set|HashMap|Optional|Object|Character|Boolean|Short|Byte)\\b", "\\bvar\\b", "\"",
        };
        for (String word : never) {
            Matcher m = Pattern.compile(word).matcher(code);
            Check.due("no " + word, !m.find());
        }
        Check.due("signs of 1 to 127 alone", text.chars().allMatch(c -> c >= 1 && c <= 127));
    }

    /** Rule 4. */
    private static void library(String text) {
        Matcher imports = Pattern.compile("(?m)^import ([^;]*);").matcher(text);
        while (imports.find()) {
            Check.due("import " + imports.group(1), imports.group(1).equals("java.util.Arrays"));
        }
        Set<String> may = Set.of("Math.max", "Math.min", "Math.abs", "Arrays.fill", "System.arraycopy", "Integer.bitCount",
            "Integer.MAX_VALUE", "Long.MIN_VALUE");
        Matcher uses = Pattern.compile("\\b(Math|Arrays|System|Integer|Long)\\.\\w+").matcher(text);
        while (uses.find()) {
            Check.due("use of " + uses.group(), may.contains(uses.group()));
        }
    }

    /** Rule 1: the document's own code block, method by method. */
    private static void face() throws IOException {
        Set<String> due = new TreeSet<>();
        String document = Files.readString(DOCUMENT, StandardCharsets.UTF_8);
        Matcher m = Pattern.compile("(?m)^    public (int|long) (\\w+)\\(([^)]*)\\);").matcher(document);
        while (m.find()) {
            String kinds = m.group(3).replaceAll("(int|long) \\w+", "$1").replace(" ", "");
            due.add(m.group(1) + " " + m.group(2) + "(" + kinds + ")");
        }
        Set<String> got = new TreeSet<>();
        for (Method method : CoachmenFace.class.getDeclaredMethods()) {
            if (!Modifier.isPrivate(method.getModifiers())) {
                Check.due(method.getName() + " is public", Modifier.isPublic(method.getModifiers()));
                List<String> kinds = new ArrayList<>();
                for (Class<?> kind : method.getParameterTypes()) {
                    kinds.add(kind.getName());
                }
                got.add(method.getReturnType().getName() + " " + method.getName() + "(" + String.join(",", kinds) + ")");
            }
        }
        Check.due("the face has 42 methods", due.size(), 42);
        Check.due("the face " + got + " is " + due, got.equals(due));
        Set<String> constants = new HashSet<>();
        for (Field field : CoachmenFace.class.getDeclaredFields()) {
            if (!Modifier.isPrivate(field.getModifiers())) {
                constants.add(field.getName());
            }
        }
        Check.due("constants " + constants, constants.equals(Set.of("BAD", "NOT", "FULL", "STATE", "VOID")));
        Check.due("final", Modifier.isFinal(CoachmenFace.class.getModifiers()));
        Check.due("one constructor", CoachmenFace.class.getDeclaredConstructors().length, 1);
    }

    /** Rules 1, 5 and 11: names, static fields, how many. */
    private static void members(Class<?> one) {
        Set<String> open = new HashSet<>();
        for (Method method : CoachmenFace.class.getDeclaredMethods()) {
            if (Modifier.isPublic(method.getModifiers())) {
                open.add(method.getName());
            }
        }
        for (Method method : one.getDeclaredMethods()) {
            boolean own = one != CoachmenFace.class || Modifier.isPrivate(method.getModifiers());
            Check.due(one.getName() + "." + method.getName() + " bears no public name", !own || !open.contains(method.getName()));
            Check.due(one.getName() + "." + method.getName() + " takes at most seven", method.getParameterCount() <= 7);
        }
        int fields = 0;
        for (Field field : one.getDeclaredFields()) {
            boolean isStatic = Modifier.isStatic(field.getModifiers());
            Check.due(one.getName() + "." + field.getName() + " is final if static", !isStatic || Modifier.isFinal(field.getModifiers()));
            fields += isStatic ? 0 : 1;
        }
        Check.due(one.getName() + " has some twenty fields", fields <= 20);
    }
}
