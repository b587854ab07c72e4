import java.util.ArrayList;
import java.util.EnumSet;
import java.util.List;
import java.util.Set;

/** What an object is made of, as far as calls can show it. Looking at a part spoils the object. */
enum Part {
    POLYGON, ACTS, IMAGES, ROWS_LOW, ROWS_HIGH, TAPE, FAULT, TRACE;

    private static final int STATE = -1000002;

    /** The parts that a call may change if it is neither refused nor found. */
    static Set<Part> changedBy(String call) {
        switch (call) {
            case "row", "set", "copy", "drop":
                return EnumSet.of(ROWS_LOW, ROWS_HIGH);
            case "feed":
                return EnumSet.of(TAPE);
            case "polygon":
                return EnumSet.of(POLYGON, ACTS, TAPE);
            case "undo", "cut", "join", "flip", "turn", "mirror", "become", "number", "lay", "restore":
                return EnumSet.of(POLYGON, ACTS);
            case "image":
                return EnumSet.of(IMAGES);
            case "ask":
                return EnumSet.of(TRACE);
            default:
                return EnumSet.noneOf(Part.class);
        }
    }

    List<Long> seenIn(FriezePolygons x) {
        List<Long> seen = new ArrayList<>();
        switch (this) {
            case POLYGON:
                polygon(x, seen);
                break;
            case ACTS:
                acts(x, seen);
                break;
            case IMAGES:
                images(x, seen);
                break;
            case ROWS_LOW:
                rows(x, 0, seen);
                break;
            case ROWS_HIGH:
                rows(x, 4, seen);
                break;
            case TAPE:
                tape(x, seen);
                break;
            case FAULT:
                seen.add((long) x.fault());
                break;
            default:
                trace(x, seen);
        }
        return seen;
    }

    private static void polygon(FriezePolygons x, List<Long> seen) {
        for (int what = 0; what < 9; what++) {
            seen.add((long) x.whole(what));
        }
        for (int c = 0; c < x.count(1); c++) {
            seen.add((long) x.kind(c));
            seen.add((long) x.corner(c, 0));
            seen.add((long) x.corner(c, 1));
            seen.add((long) x.piece(c));
        }
    }

    private static void acts(FriezePolygons x, List<Long> seen) {
        int corners = x.count(1);
        seen.add((long) x.count(4));
        for (int left = x.undo(); left != STATE; left = x.undo()) {
            seen.add((long) left);
            seen.add((long) x.whole(1));
            for (int c = 0; c < corners && c < 6; c++) {
                seen.add((long) x.kind(c));
                seen.add((long) x.corner(c, 1));
            }
        }
    }

    private static void images(FriezePolygons x, List<Long> seen) {
        for (int k = 0; k < 2; k++) {
            int kept = x.restore(k);
            seen.add((long) kept);
            if (kept > 0) {
                polygon(x, seen);
            }
        }
    }

    /** By a fixed corner that is asked for its K an item of 0 to 9 is seen. */
    private static void rows(FriezePolygons x, int first, List<Long> seen) {
        x.polygon();
        Due.read(x, "f0;f0;f0;f0;");
        for (int row = first; row < first + 4; row++) {
            for (int i = 0; i < 40; i++) {
                seen.add((long) x.who(0, 1, row, i, 1));
            }
            // what a lane makes of this is another number for each
            seen.add((long) x.set(row, 0, 40000));
            seen.add((long) x.drop(row));
        }
    }

    private static void tape(FriezePolygons x, List<Long> seen) {
        seen.add((long) x.count(5));
        int corners = x.polygon();
        seen.add((long) corners);
        if (corners > 0) {
            polygon(x, seen);
        }
    }

    private static void trace(FriezePolygons x, List<Long> seen) {
        for (int i = 0; i < 17; i++) {
            seen.add((long) x.trace(i));
        }
    }
}
