import java.util.ArrayList;
import java.util.EnumSet;
import java.util.List;
import java.util.Map;
import java.util.Set;

/**
 * A run of calls on a new object, told in a text with what each is due to answer. Its elements, apart by spaces:
 *
 * <pre>
 * cut(0,2)=1       a call and its answer
 * cut(0,2)         a call of which the answer doesn't matter here
 * {0,3}            as an answer: the bits 0 and 3; F7: polygon() tells a fault at place 7
 * BAD, MIN, ..     as an answer or an argument: the numbers of these names
 * &lt;p0;p0;&gt;=F6      a text comes to the tape, and is read
 * +p0;p0;          a text comes to the tape
 * 0:[1,2]          row 0 becomes one of ints with these items
 * </pre>
 *
 * Behind each call with an answer it is looked at, too, what status() tells (promise 38), and that nothing is another
 * but what the call may change: nothing at all, if it is refused or found.
 */
final class Script {
    private static final Map<String, Integer> NAMES = Map.ofEntries(Map.entry("NONE", -1000000),
            Map.entry("BAD", -1000001), Map.entry("STATE", -1000002), Map.entry("FULL", -1000003),
            Map.entry("NULL", -1000011), Map.entry("PLACE", -1000012), Map.entry("KIND", -1000013),
            Map.entry("SIZE", -1000014), Map.entry("STORE", -1000015), Map.entry("OVER", -1000016),
            Map.entry("MIN", Integer.MIN_VALUE), Map.entry("MAX", Integer.MAX_VALUE));
    private static final Set<String> TELL_STATUS = Set.of("row", "set", "copy", "drop", "lay", "back", "flips", "who",
            "as", "frieze");

    private record Step(String name, int[] args, Long due) {
        @Override
        public String toString() {
            StringBuilder text = new StringBuilder(name).append('(');
            for (int i = 0; i < args.length; i++) {
                text.append(i == 0 ? "" : ", ").append(args[i]);
            }
            return text.append(')').toString();
        }
    }

    private final List<Step> steps = new ArrayList<>();

    Script(String text) {
        for (String element : text.trim().split("\\s+")) {
            parse(element);
        }
    }

    // ---- how a script is told

    private void parse(String element) {
        if (element.startsWith("<")) {
            int end = element.lastIndexOf('>');
            feed(element.substring(1, end));
            steps.add(new Step("polygon", new int[0], answer(element.substring(end + 2))));
        } else if (element.startsWith("+")) {
            feed(element.substring(1));
        } else if (element.contains(":[")) {
            fill(element);
        } else {
            int open = element.indexOf('(');
            int close = element.indexOf(')');
            Long due = close + 1 < element.length() ? answer(element.substring(close + 2)) : null;
            steps.add(new Step(element.substring(0, open), numbers(element.substring(open + 1, close)), due));
        }
    }

    private void feed(String text) {
        for (char letter : text.toCharArray()) {
            steps.add(new Step("feed", new int[] {letter}, null));
        }
    }

    private void fill(String element) {
        int row = element.charAt(0) - '0';
        int[] items = numbers(element.substring(element.indexOf('[') + 1, element.indexOf(']')));
        steps.add(new Step("row", new int[] {row, 2, items.length}, null));
        for (int i = 0; i < items.length; i++) {
            steps.add(new Step("set", new int[] {row, i, items[i]}, null));
        }
    }

    private static int[] numbers(String list) {
        if (list.isEmpty()) {
            return new int[0];
        }
        String[] told = list.split(",");
        int[] numbers = new int[told.length];
        for (int i = 0; i < told.length; i++) {
            numbers[i] = NAMES.containsKey(told[i]) ? NAMES.get(told[i]) : Integer.parseInt(told[i]);
        }
        return numbers;
    }

    private static long answer(String told) {
        if (told.startsWith("{")) {
            long bits = 0;
            for (int bit : numbers(told.substring(1, told.length() - 1))) {
                bits |= 1L << bit;
            }
            return bits;
        }
        if (told.matches("F\\d+")) {
            return -1000100 - Integer.parseInt(told.substring(1));
        }
        return NAMES.containsKey(told) ? NAMES.get(told) : Long.parseLong(told);
    }

    // ---- how it is run

    void check(Due due) {
        FriezePolygons x = new FriezePolygons();
        for (int i = 0; i < steps.size(); i++) {
            Step step = steps.get(i);
            if (step.due == null) {
                Calls.on(x, step.name, step.args);
                continue;
            }
            int before = x.status();
            long got = Calls.on(x, step.name, step.args);
            due.is(step + " as call " + i, got, step.due);
            due.is("status() behind " + step + " as call " + i, x.status(), statusBehind(step.name, got, before));
            checkRest(due, i, got);
        }
    }

    /** What promise 38 asks of status() behind a call. */
    private static int statusBehind(String name, long got, int before) {
        if (isRefused(got)) {
            return before;
        }
        if (isFound(got)) {
            return (int) (-1000010 - got);
        }
        return TELL_STATUS.contains(name) ? 0 : before;
    }

    private static boolean isRefused(long got) {
        return got <= -1000001 && got >= -1000003;
    }

    private static boolean isFound(long got) {
        return got <= -1000011 && got >= -1000016;
    }

    private void checkRest(Due due, int at, long got) {
        for (Part part : EnumSet.complementOf(EnumSet.copyOf(mayChange(steps.get(at).name, got)))) {
            boolean same = part.seenIn(runTo(at)).equals(part.seenIn(runTo(at + 1)));
            due.holds(part + " is as before " + steps.get(at) + " as call " + at, same);
        }
    }

    private static Set<Part> mayChange(String name, long got) {
        if (isRefused(got) || isFound(got) || name.equals("lay") && got == NAMES.get("NONE")) {
            return EnumSet.noneOf(Part.class);
        }
        return name.equals("polygon") && got < 0 ? EnumSet.of(Part.TAPE, Part.FAULT) : Part.changedBy(name);
    }

    private FriezePolygons runTo(int end) {
        FriezePolygons x = new FriezePolygons();
        for (int i = 0; i < end; i++) {
            Calls.on(x, steps.get(i).name, steps.get(i).args);
        }
        return x;
    }
}
