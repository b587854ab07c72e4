import java.nio.file.Files;
import java.nio.file.Path;
import java.util.Map;
import java.util.regex.Matcher;
import java.util.regex.Pattern;

/** What README.md shows: each call in it answers what is written behind it, and every call of the face is told. */
public final class ReadmeTest {
    private static final Path FILE = Path.of("README.md");
    private static final Path DOCUMENT = Path.of("../shared/DOC.md");
    private static final Pattern BLOCK = Pattern.compile("```java\n(.*?)```", Pattern.DOTALL);
    private static final Pattern FED = Pattern.compile("for \\(char letter : \"([^\"]*)\"\\.toCharArray\\(\\)\\) \\{");
    private static final Pattern CALL = Pattern.compile("x\\.(\\w+)\\(([-\\d, ]*)\\); +// (-?\\d+|[A-Z]+)(: .*)?");
    private static final Map<String, Integer> REFUSALS = Map.of("NONE", FriezePolygons.NONE, "BAD", FriezePolygons.BAD,
            "STATE", FriezePolygons.STATE, "FULL", FriezePolygons.FULL);
    private static final Due DUE = new Due();

    private static FriezePolygons x = new FriezePolygons();

    public static void main(String[] args) throws Exception {
        String readme = Files.readString(FILE);
        shownCalls(readme);
        toldCalls(readme, Files.readString(DOCUMENT));
        toldRefusals(readme);
        DUE.end();
    }

    private static void shownCalls(String readme) {
        DUE.part("README.md shows");
        Matcher block = BLOCK.matcher(readme);
        int shown = 0;
        while (block.find()) {
            for (String line : block.group(1).split("\n")) {
                shown += shownLine(line) ? 1 : 0;
            }
        }
        DUE.holds("some calls", shown >= 20);
    }

    /** Whether a line is a call with its answer; the other lines make an object and feed it. */
    private static boolean shownLine(String line) {
        Matcher fed = FED.matcher(line);
        Matcher call = CALL.matcher(line);
        if (call.matches()) {
            String due = call.group(3);
            long want = REFUSALS.containsKey(due) ? REFUSALS.get(due) : Long.parseLong(due);
            DUE.is(line, Calls.on(x, call.group(1), numbersOf(call.group(2))), want);
            return true;
        }
        if (fed.matches()) {
            Due.feed(x, fed.group(1));
        } else if (line.equals("FriezePolygons x = new FriezePolygons();")) {
            x = new FriezePolygons();
        } else {
            DUE.holds("nothing else: " + line, line.equals("    x.feed(letter);") || line.equals("}"));
        }
        return false;
    }

    private static int[] numbersOf(String list) {
        if (list.isEmpty()) {
            return new int[0];
        }
        String[] parts = list.split(", ");
        int[] numbers = new int[parts.length];
        for (int i = 0; i < parts.length; i++) {
            numbers[i] = Integer.parseInt(parts[i]);
        }
        return numbers;
    }

    private static void toldCalls(String readme, String document) {
        DUE.part("README.md tells");
        Matcher face = BLOCK.matcher(document);
        DUE.holds("what the document's face has", face.find());
        Matcher method = Pattern.compile("public (?:int|long) (\\w+\\([^)]*\\));").matcher(face.group(1));
        int told = 0;
        while (method.find()) {
            String call = method.group(1).replace("int ", "").replace("long ", "");
            DUE.holds("the call " + call, readme.contains("| `" + call + "` | "));
            told++;
        }
        DUE.is("how many calls", told, 37);
    }

    private static void toldRefusals(String readme) {
        DUE.part("README.md tells");
        for (String name : REFUSALS.keySet()) {
            DUE.holds("the refusal " + name, readme.contains("| `" + name + "` (" + REFUSALS.get(name) + ") | "));
        }
        for (int finding = 1; finding <= 6; finding++) {
            String told = "| " + (-1000010 - finding) + " | `status()` " + finding + ": ";
            DUE.holds("finding " + finding, readme.contains(told));
        }
    }
}
