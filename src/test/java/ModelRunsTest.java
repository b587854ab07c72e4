import java.lang.reflect.InvocationTargetException;
import java.lang.reflect.Method;
import java.lang.reflect.Modifier;
import java.util.ArrayList;
import java.util.Arrays;
import java.util.Comparator;
import java.util.List;
import java.util.Random;

/** Runs of calls by fixed draws, of which the class and the model must answer each alike (promises 1 to 38). */
public final class ModelRunsTest {
    private static final int RUNS = 1500, CALLS = 512;
    private static final int[] EDGES = {Integer.MIN_VALUE, Integer.MIN_VALUE + 1, Integer.MAX_VALUE,
        Integer.MAX_VALUE - 1, -1000000, 1000000, 999999, 256, 128, -128, -129, 32768, 100, -100, 99, -99, 61, 60, 41,
        40, 39, 27, 26, 21, 20, 16, 11, 10, -2, -1};
    private static final String SORTS = "ptmfo";

    private final Random random;
    private final FriezePolygons x = new FriezePolygons();
    private final Model model = new Model();
    private final List<Method> face;
    private final List<String> told = new ArrayList<>();
    private final int[] answered;
    /** How often what is rare was met: OVER, FULL, a forgotten act. */
    private final int[] rare;
    /** Whether one polygon stays for the whole run, so that many acts come together. */
    private final boolean steady;
    private int calls = 0;

    private ModelRunsTest(long seed, List<Method> face, int[] answered, int[] rare) {
        random = new Random(seed);
        this.face = face;
        this.answered = answered;
        this.rare = rare;
        steady = random.nextInt(3) == 0;
    }

    public static void main(String[] args) throws Exception {
        List<Method> face = new ArrayList<>();
        for (Method m : FriezePolygons.class.getDeclaredMethods()) {
            if (Modifier.isPublic(m.getModifiers())) {
                face.add(m);
            }
        }
        face.sort(Comparator.comparing(Method::getName));
        int[] answered = new int[face.size()];
        int[] rare = new int[3];
        for (int run = 0; run < RUNS; run++) {
            ModelRunsTest test = new ModelRunsTest(run, face, answered, rare);
            if (!test.runs()) {
                System.out.println("run " + run + " of the model: " + test.told);
                System.exit(1);
            }
        }
        for (int i = 0; i < answered.length; i++) {
            if (answered[i] < RUNS / 2) {
                System.out.println("hardly ever answered without refusal: " + face.get(i).getName());
                System.exit(1);
            }
        }
        for (int i = 0; i < rare.length; i++) {
            if (rare[i] < RUNS / 50) {
                System.out.println("hardly ever met: what is rare, number " + i);
                System.exit(1);
            }
        }
        System.out.println("the model answers alike in " + RUNS + " runs");
    }

    private boolean runs() throws Exception {
        if (random.nextInt(20) > 0 && !tell(goodText())) {
            return false;
        }
        while (calls < CALLS) {
            if (!step()) {
                return false;
            }
        }
        return true;
    }

    private boolean step() throws Exception {
        int choice = random.nextInt(60);
        if (choice == 0 && !steady) {
            return tell(goodText());
        }
        if (choice == 1) {
            return random.nextInt(10) == 0 ? tell(goodText().repeat(10)) : tell(spoilt(goodText()));
        }
        if (choice == 10 && steady) {
            return doAndUndo();
        }
        if (choice <= 4) {
            return fillRow();
        }
        if (choice <= 9) {
            return call("cut", random.nextInt(9), random.nextInt(9));
        }
        Method m = face.get(random.nextInt(face.size()));
        if (steady && (m.getName().equals("restore") || m.getName().equals("undo")) && random.nextInt(8) > 0) {
            return true;
        }
        int[] args = new int[m.getParameterCount()];
        for (int i = 0; i < args.length; i++) {
            args[i] = argument(m.getName(), i);
        }
        return call(m.getName(), args);
    }

    /** About as many acts as are kept, and nearly as many undone. */
    private boolean doAndUndo() throws Exception {
        boolean alike = true;
        for (int i = 22 + random.nextInt(6); i > 0 && alike; i--) {
            switch (random.nextInt(4)) {
                case 0:
                    alike = call("turn", 1 + random.nextInt(4));
                    break;
                case 1:
                    alike = call("number", random.nextInt(4), random.nextInt(10));
                    break;
                case 2:
                    alike = call("become", random.nextInt(4), 1 + random.nextInt(5));
                    break;
                default:
                    alike = call("flip", someCut());
            }
        }
        for (int i = random.nextInt(26); i > 0 && alike; i--) {
            alike = call("undo") && call("whole", 1) && call("count", 3);
        }
        return alike;
    }

    /** Mostly a number that can be, and sometimes any. */
    private int argument(String name, int i) {
        if (random.nextInt(25) == 0) {
            return random.nextBoolean() ? EDGES[random.nextInt(EDGES.length)] : random.nextInt();
        }
        switch (name) {
            case "feed":
                return "ptmfod0123456789,;x ".charAt(random.nextInt(20));
            case "row":
                return i == 0 ? 7 - random.nextInt(6) : random.nextInt(i == 1 ? 3 : 41);
            case "set":
                return i == 0 ? random.nextInt(8) : i == 1 ? random.nextInt(12) : random.nextInt(9) - 1;
            case "copy":
                return i == 4 ? random.nextInt(5) : random.nextInt(i == 0 || i == 2 ? 3 : 6);
            case "join":
            case "flip":
            case "cutOf":
                return i == 0 ? someCut() : random.nextInt(4);
            case "frieze":
                return i == 0 ? random.nextInt(9) : Math.min(20, random.nextInt(40));
            case "sets":
                return i == 0 ? random.nextInt(25) - 5 : random.nextInt(3);
            case "who":
                return i == 3 ? random.nextInt(3) : i == 4 ? 1 + random.nextInt(6) : random.nextInt(i == 1 ? 3 : 7);
            case "lost":
                return i == 0 ? 3 + random.nextInt(7) : i == 1 ? random.nextInt(11) : random.nextInt(2);
            case "drawn":
                return i == 0 ? random.nextInt(61) : i == 1 ? 1 + random.nextInt(999999) : random.nextInt(2);
            case "back":
                return i == 0 ? random.nextInt(8) : random.nextInt(3);
            case "whole":
                return random.nextInt(9);
            case "corner":
                return random.nextInt(i == 0 ? 9 : 4);
            case "become":
            case "as":
                return random.nextInt(i == 0 ? 9 : 6);
            case "ask":
                return random.nextInt(i == 0 ? 9 : 2);
            case "trace":
            case "count":
                return random.nextInt(6);
            case "drop":
                return 7 - random.nextInt(6);
            case "likes":
            case "image":
            case "restore":
                return random.nextInt(2);
            default:
                return random.nextInt(10);
        }
    }

    private int someCut() {
        int bits = Math.max(0, model.whole(1));
        int start = random.nextInt(27);
        for (int i = 0; i < 27; i++) {
            if ((bits >> (start + i) % 27 & 1) == 1 && random.nextInt(4) > 0) {
                return (start + i) % 27;
            }
        }
        return start;
    }

    private boolean call(String name, int... args) throws Exception {
        if (calls >= CALLS) {
            return true;
        }
        calls++;
        int at = 0;
        while (!face.get(at).getName().equals(name)) {
            at++;
        }
        Object[] boxed = Arrays.stream(args).boxed().toArray();
        Method m = face.get(at);
        Object want = Model.class.getDeclaredMethod(name, m.getParameterTypes()).invoke(model, boxed);
        told.add(name + Arrays.toString(args) + " " + want);
        Object got;
        try {
            got = m.invoke(x, boxed);
        } catch (InvocationTargetException e) {
            told.add("threw " + e.getCause());
            return false;
        }
        if (!got.equals(want)) {
            told.add("but the class answered " + got);
            return false;
        }
        noteRare(name, ((Number) got).longValue());
        if (((Number) got).longValue() > -1000000) {
            answered[at]++;
        }
        return true;
    }

    private void noteRare(String name, long got) {
        if (name.equals("frieze") && got == -1000016) {
            rare[0]++;
        }
        if (got == Model.FULL) {
            rare[1]++;
        }
        if (name.equals("undo") && got == 23) {
            rare[2]++;
        }
    }

    private boolean tell(String text) throws Exception {
        for (int i = 0; i < text.length(); i++) {
            if (!call("feed", text.charAt(i))) {
                return false;
            }
        }
        return call("polygon") && call("fault") && call("whole", 1);
    }

    private String goodText() {
        int n = 4 + random.nextInt(6);
        if (random.nextInt(6) == 0) {
            return greatText();
        }
        StringBuilder text = new StringBuilder();
        for (int i = 0; i < n; i++) {
            text.append(random.nextBoolean() ? 'p' : sort()).append(random.nextInt(10)).append(';');
        }
        FriezePolygons trial = Due.of(text.toString());
        for (int i = random.nextInt(40); i > 0; i--) {
            int a = random.nextInt(n);
            int b = random.nextInt(n);
            if (trial.cut(a, b) > 0) {
                text.append('d').append(Math.min(a, b)).append(',').append(Math.max(a, b)).append(';');
            }
        }
        return text.toString();
    }

    /** The frieze of these comes beyond a long, as one corner has all cuts and counts them twice. */
    private String greatText() {
        StringBuilder text = new StringBuilder("t9;");
        for (int i = 1; i < 9; i++) {
            text.append('o').append(9).append(';');
        }
        for (int i = 2; i < 8; i++) {
            text.append("d0,").append(i).append(';');
        }
        return text.toString();
    }

    private char sort() {
        return SORTS.charAt(random.nextInt(SORTS.length()));
    }

    private String spoilt(String text) {
        StringBuilder out = new StringBuilder(text);
        for (int i = 1 + random.nextInt(2); i > 0; i--) {
            int at = random.nextInt(out.length());
            char letter = "ptmfodxz,;0123456789 A\u00ff\0".charAt(random.nextInt(24));
            switch (random.nextInt(3)) {
                case 0:
                    out.setCharAt(at, letter);
                    break;
                case 1:
                    out.insert(at, letter);
                    break;
                default:
                    out.deleteCharAt(at);
            }
        }
        return out.toString();
    }

    /** A row of counts of a cutting of as many corners as there are now, or of the counts that are there. */
    private boolean fillRow() throws Exception {
        int n = Math.max(4, model.count(1));
        int row = random.nextInt(random.nextInt(4) == 0 ? 8 : 3);
        if (!call("row", row, random.nextInt(4) == 0 ? random.nextInt(3) : 1, n + random.nextInt(3))) {
            return false;
        }
        boolean asNow = random.nextInt(3) == 0 && model.count(1) > 0;
        FriezePolygons trial = Due.of("p0;".repeat(n));
        for (int i = 0; i < 200; i++) {
            trial.cut(random.nextInt(n), random.nextInt(n));
        }
        for (int c = 0; c < n; c++) {
            int v = asNow ? model.corner(c, 0) : trial.corner(c, 0);
            if (!call("set", row, c, v + (random.nextInt(50) == 0 ? 1 : 0))) {
                return false;
            }
        }
        int next = random.nextInt(4);
        return next == 0 ? call("lay", row) : next == 1 ? call("flips", row) : call("back", row, 0);
    }
}
