import java.lang.reflect.Constructor;
import java.lang.reflect.Executable;
import java.lang.reflect.Field;
import java.lang.reflect.Method;
import java.lang.reflect.Modifier;
import java.nio.charset.StandardCharsets;
import java.nio.file.Files;
import java.nio.file.Path;
import java.util.ArrayList;
import java.util.List;
import java.util.Set;
import java.util.TreeSet;
import java.util.regex.Matcher;
import java.util.regex.Pattern;

/** The face of the document, and what can be seen of the rules of LANGUAGE.md in the file and the classes. */
public final class LanguageTest {
    private static final Path FILE = Path.of("src/main/java/FriezePolygons.java");
    private static final Path DOCUMENT = Path.of("../shared/DOC.md");
    private static final Due DUE = new Due();

    public static void main(String[] args) throws Exception {
        String code = withoutComments(Files.readString(FILE, StandardCharsets.ISO_8859_1));
        List<Class<?>> classes = new ArrayList<>(List.of(FriezePolygons.class.getDeclaredClasses()));
        face();
        nested(classes);
        classes.add(FriezePolygons.class);
        names(classes);
        words(code);
        library(code);
        lengths(code);
        DUE.end();
    }

    private static String withoutComments(String code) {
        return code.replaceAll("(?s)/\\*.*?\\*/", "").replaceAll("//[^\n]*", "");
    }

    private static void face() throws Exception {
        DUE.part("rule 1");
        Matcher m = Pattern.compile("```java\n(.*?)```", Pattern.DOTALL).matcher(Files.readString(DOCUMENT));
        DUE.holds("the document has a face", m.find());
        Set<String> told = new TreeSet<>();
        Matcher line = Pattern.compile("public (int|long) (\\w+)\\(([^)]*)\\);").matcher(m.group(1));
        while (line.find()) {
            String parameters = line.group(3).replaceAll("(int|long) \\w+", "$1").replace(" ", "");
            told.add(line.group(1) + " " + line.group(2) + "(" + parameters + ")");
        }
        Set<String> there = new TreeSet<>();
        for (Method method : FriezePolygons.class.getDeclaredMethods()) {
            if (Modifier.isPublic(method.getModifiers())) {
                there.add(method.getReturnType() + " " + method.getName() + "(" + parameters(method) + ")");
                DUE.holds(method + " is not static", !Modifier.isStatic(method.getModifiers()));
            } else {
                DUE.holds(method + " is private", Modifier.isPrivate(method.getModifiers()));
            }
        }
        DUE.holds("the methods " + there + " are those told, " + told, there.equals(told) && told.size() == 37);
        for (Constructor<?> made : FriezePolygons.class.getDeclaredConstructors()) {
            DUE.holds(made + " is told", Modifier.isPublic(made.getModifiers()) && made.getParameterCount() == 0);
        }
        Set<String> constants = Set.of("NONE", "BAD", "STATE", "FULL");
        for (Field field : FriezePolygons.class.getDeclaredFields()) {
            boolean shown = constants.contains(field.getName());
            DUE.holds(field + " is seen or not", shown == Modifier.isPublic(field.getModifiers())
                    && (shown || Modifier.isPrivate(field.getModifiers())));
        }
        int modifiers = FriezePolygons.class.getModifiers();
        DUE.holds("the class is public and final", Modifier.isPublic(modifiers) && Modifier.isFinal(modifiers));
    }

    private static String parameters(Executable method) {
        StringBuilder text = new StringBuilder();
        for (Class<?> type : method.getParameterTypes()) {
            text.append(text.length() == 0 ? "" : ",").append(type);
        }
        return text.toString();
    }

    private static void nested(List<Class<?>> classes) {
        DUE.part("rules 2, 11");
        DUE.holds("at most twelve classes", classes.size() + 1 <= 12);
        for (Class<?> one : classes) {
            DUE.holds(one + " is static", Modifier.isStatic(one.getModifiers()));
            DUE.holds(one + " has no classes inside", one.getDeclaredClasses().length == 0);
        }
    }

    private static void names(List<Class<?>> classes) {
        DUE.part("rules 1, 5, 11");
        Set<String> shown = new TreeSet<>();
        for (Method method : FriezePolygons.class.getDeclaredMethods()) {
            if (Modifier.isPublic(method.getModifiers())) {
                shown.add(method.getName());
            }
        }
        for (Class<?> one : classes) {
            int fields = 0;
            for (Field field : one.getDeclaredFields()) {
                if (Modifier.isStatic(field.getModifiers())) {
                    DUE.holds(field + " is final", Modifier.isFinal(field.getModifiers()));
                } else {
                    fields++;
                }
            }
            DUE.holds(one + " has at most 20 fields", fields <= 20);
            for (Method method : one.getDeclaredMethods()) {
                DUE.holds(method + " takes at most 7", method.getParameterCount() <= 7);
                boolean ofFace = one == FriezePolygons.class && Modifier.isPublic(method.getModifiers());
                DUE.holds(method + " has a name of its own", ofFace || !shown.contains(method.getName()));
            }
        }
    }

    private static void words(String code) {
        DUE.part("rules 2, 6, 10, 12, 13");
        String[] never = {"\\bthrow\\b", "\\bthrows\\b", "\\btry\\b", "\\bcatch\\b", "\\bfinally\\b", "\\bassert\\b",
            "\\bsynchronized\\b", "\\bvolatile\\b", "\\bnative\\b", "\\bgoto\\b", "->", "::", "\"", "\\bpackage\\b",
            "static\\s*\\{", "\\bprotected\\b", "\\bdouble\\b", "\\bfloat\\b", "Exact\\b", "\\bnull\\b", "\\bObject\\b",
            "\\bThread\\b", "\\bRandom\\b", "currentTime", "nanoTime", "\\bwhile\\b", "@"};
        for (String word : never) {
            DUE.holds("there is no " + word, !Pattern.compile(word).matcher(code).find());
        }
        for (int i = 0; i < code.length(); i++) {
            if (code.charAt(i) > 126) {
                DUE.holds("a sign beyond 126", false);
            }
        }
        // all that is made is made once, with the object
        Matcher made = Pattern.compile("\\n( *)[^\\n]*\\bnew \\w+").matcher(code);
        while (made.find()) {
            boolean field = made.group().contains("final ");
            boolean inConstructor = made.group().contains("rows[i] =") || made.group().contains("images[i] =");
            DUE.holds("made with the object: " + made.group().trim(), field || inConstructor);
        }
    }

    private static void library(String code) {
        DUE.part("rule 4");
        Matcher imported = Pattern.compile("import ([^;]+);").matcher(code);
        while (imported.find()) {
            DUE.holds(imported.group(1) + " may be imported", imported.group(1).equals("java.util.Arrays"));
        }
        Set<String> known = Set.of("Arrays.fill", "System.arraycopy", "Integer.bitCount", "Math.min", "Math.max");
        Matcher used = Pattern.compile("\\b(Arrays|System|Integer|Long|Math|String|StringBuilder|List)\\.\\w+")
                .matcher(code);
        while (used.find()) {
            DUE.holds(used.group() + " is known", known.contains(used.group()));
        }
    }

    private static void lengths(String code) {
        DUE.part("rule 11");
        int begun = -1;
        int indent = 0;
        String[] lines = code.split("\n");
        for (int i = 0; i < lines.length; i++) {
            if (begun < 0 && lines[i].matches(" {4,8}[\\w\\[\\] ]+\\([^)]*\\) \\{")) {
                begun = i;
                indent = lines[i].indexOf(lines[i].trim());
            } else if (begun >= 0 && lines[i].equals(" ".repeat(indent) + "}")) {
                DUE.holds("is short: " + lines[begun].trim(), i - begun < 60);
                begun = -1;
            }
        }
    }
}
