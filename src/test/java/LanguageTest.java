import java.lang.reflect.Constructor;
import java.lang.reflect.Field;
import java.lang.reflect.Method;
import java.lang.reflect.Modifier;
import java.nio.file.Files;
import java.nio.file.Path;
import java.util.Set;
import java.util.TreeSet;
import java.util.regex.Matcher;
import java.util.regex.Pattern;

/** The rules of LANGUAGE.md that can be looked up in the text or the class. */
public final class LanguageTest {
    private static final Checks CHECKS = new Checks();
    private static final Set<String> FACE = new TreeSet<>(Set.of(
            "boolean sheet(int)", "int feed(int,int,int,int,int)", "int recipe(int)",
            "int wedge(int)", "int layers(int,int)", "int snipped(int,int)",
            "int opened(int,int)", "int sums(int)", "int piece(int,int,int)",
            "boolean deer(int,int,boolean)", "int hang()", "boolean want(int,int)",
            "int wantOpened()", "int differs(int)", "int fits(int,int,int)",
            "int bestFold(int)", "int snips(int,int,int)", "int straight(int,int,int,int)",
            "int scraps(int,int)", "long alike(int,int)", "int strips(int,int,int)",
            "int slipped(int,int,int)", "int spoilt(int)", "long odds(int,int,int)",
            "boolean seed(int)", "int draw(int)", "int keep()", "boolean undo()",
            "int check(int,int)", "int count(int)"));

    public static void main(String[] args) throws Exception {
        String source = Files.readString(Path.of("src/main/java/PaperStars.java"));
        face();
        int classes = 0;
        for (Class<?> inside : PaperStars.class.getDeclaredClasses()) {
            classes++;
            inner(inside);
        }
        CHECKS.due("classes: at most twelve, " + (classes + 1), classes + 1 <= 12, true);
        words(source);
        methodLengths(source);
        CHECKS.end();
    }

    private static void face() {
        Set<String> found = new TreeSet<>();
        for (Method method : PaperStars.class.getDeclaredMethods()) {
            if (!Modifier.isPrivate(method.getModifiers())) {
                found.add(method.toString().replace("public ", "").replace("PaperStars.", ""));
            }
        }
        CHECKS.due("face " + found, found.equals(FACE), true);
        for (Constructor<?> made : PaperStars.class.getDeclaredConstructors()) {
            CHECKS.due("constructor", made.getParameterCount(), 0);
            CHECKS.due("constructor", Modifier.isPublic(made.getModifiers()), true);
        }
        for (Field field : PaperStars.class.getDeclaredFields()) {
            boolean isPrivate = Modifier.isPrivate(field.getModifiers());
            CHECKS.due("field " + field, isPrivate, !field.getName().equals("NONE"));
        }
        CHECKS.due("final", Modifier.isFinal(PaperStars.class.getModifiers()), true);
        members(PaperStars.class);
    }

    private static void inner(Class<?> inside) {
        CHECKS.due(inside + " static", Modifier.isStatic(inside.getModifiers()), true);
        CHECKS.due(inside + " public", Modifier.isPublic(inside.getModifiers()), false);
        members(inside);
        for (Method method : inside.getDeclaredMethods()) {
            boolean named = false;
            for (String face : FACE) {
                named |= face.contains(" " + method.getName() + "(");
            }
            CHECKS.due(method + " has a public one's name", named, false);
        }
    }

    private static void members(Class<?> one) {
        int fields = 0;
        for (Field field : one.getDeclaredFields()) {
            boolean isStatic = Modifier.isStatic(field.getModifiers());
            fields += isStatic ? 0 : 1;
            CHECKS.due(field + " static but not final",
                    isStatic && !Modifier.isFinal(field.getModifiers()), false);
        }
        CHECKS.due(one + " has " + fields + " fields", fields <= 20, true);
        for (Method method : one.getDeclaredMethods()) {
            CHECKS.due(method + " parameters", method.getParameterCount() <= 7, true);
        }
    }

    private static void words(String source) {
        String bare = source.replaceAll("(?s)/\\*.*?\\*/", " ").replaceAll("//[^\\n]*", " ");
        String[] never = {"throw", "throws", "try", "catch", "synchronized", "assert", "\\w*Exception",
            "Object", "\\w*Exact", "hashCode", "equals", "toString", "Thread", "Random",
            "currentTimeMillis", "nanoTime", "package", "yield", "var", "String"};
        for (String word : never) {
            CHECKS.due("word " + word,
                    Pattern.compile("\\b" + word + "\\b").matcher(bare).find(), false);
        }
        CHECKS.due("arrows", bare.contains("->"), false);
        CHECKS.due("method references", bare.contains("::"), false);
        CHECKS.due("texts", bare.contains("\""), false);
        CHECKS.due("loops by while", bare.contains("while"), false);
        Matcher imports = Pattern.compile("import ([^;]*);").matcher(bare);
        while (imports.find()) {
            CHECKS.due("import " + imports.group(1), imports.group(1).equals("java.util.Arrays"),
                    true);
        }
        for (String line : bare.split("\n")) {
            if (line.contains("new ")) {
                CHECKS.due("made outside a field: " + line,
                        line.trim().matches("(private )?final \\S+ \\w+ = new .*;"), true);
            }
        }
        for (int i = 0; i < source.length(); i++) {
            if (source.charAt(i) > 126) {
                CHECKS.due("sign at " + i, source.charAt(i), 126);
            }
        }
    }

    /** Methods end with a brace as far in as they begin. */
    private static void methodLengths(String source) {
        String[] lines = source.split("\n");
        for (int i = 0; i < lines.length; i++) {
            Matcher begins = Pattern.compile("( +)[\\w \\[\\]]+\\([^;]*\\) \\{").matcher(lines[i]);
            if (begins.matches() && begins.group(1).length() <= 8) {
                int end = i;
                while (!lines[end].equals(begins.group(1) + "}")) {
                    end++;
                }
                CHECKS.due("lines of" + lines[i], end - i < 60, true);
            }
        }
    }
}
