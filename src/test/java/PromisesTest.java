/** Each promise of the document by itself: ordinary inputs, edges, wrong inputs and the order among refusals. */
public final class PromisesTest {
    private static final int NONE = -1000000, BAD = -1000001, STATE = -1000002, FULL = -1000003;
    private static final int NULL = -1000011, PLACE = -1000012, KIND = -1000013, SIZE = -1000014, STORE = -1000015,
            OVER = -1000016;
    private static final int LEAST = Integer.MIN_VALUE, MOST = Integer.MAX_VALUE;
    private static final String SQUARE = "p0;p0;p0;p0;", PENTAGON = SQUARE + "p0;", HEXAGON = PENTAGON + "p0;";

    private static final Due DUE = new Due();

    public static void main(String[] args) {
        newObject();
        rows();
        copies();
        feeds();
        texts();
        faultsOfCorners();
        faultsOfCuts();
        undone();
        forgotten();
        cutsMade();
        cutsJoined();
        cutsFlipped();
        turnedAndMirrored();
        cornersChanged();
        laid();
        corners();
        cutsOf();
        friezes();
        friezesBeyond();
        wholes();
        pieces();
        readBack();
        ways();
        likes();
        flips();
        sets();
        who();
        lost();
        drawn();
        images();
        kinds();
        asks();
        counts();
        status();
        DUE.end();
    }

    private static void is(String call, long got, long want) {
        DUE.is(call, got, want);
    }

    private static void newObject() {
        DUE.part("promise 1");
        FriezePolygons x = new FriezePolygons();
        is("mirror()", x.mirror(), STATE);
        is("fault()", x.fault(), 0);
        is("status()", x.status(), 0);
        is("trace(0)", x.trace(0), NONE);
        for (int what = 0; what < 6; what++) {
            is("count(" + what + ")", x.count(what), 0);
        }
        is("drop(7)", x.drop(7), NULL);
        is("restore(1)", x.restore(1), STATE);
    }

    private static void rows() {
        DUE.part("promises 2, 3, 5");
        FriezePolygons x = new FriezePolygons();
        is("row(-1, 0, 0)", x.row(-1, 0, 0), BAD);
        is("row(8, 0, -1)", x.row(8, 0, -1), BAD);
        is("row(0, -1, 0)", x.row(0, -1, 0), BAD);
        is("row(0, 3, -1)", x.row(0, 3, -1), BAD);
        is("row(0, 0, 41)", x.row(0, 0, 41), BAD);
        is("row(0, 0, -1)", x.row(0, 0, -1), SIZE);
        is("row(0, 0, least)", x.row(0, 0, LEAST), SIZE);
        is("count(0)", x.count(0), 0);
        is("row(0, 0, 40)", x.row(0, 0, 40), 40);
        is("row(7, 1, 0)", x.row(7, 1, 0), 0);
        is("row(3, 2, 2)", x.row(3, 2, 2), 2);
        is("count(0)", x.count(0), 3);
        is("set(0, 39, 127)", x.set(0, 39, 127), 127);
        is("set(0, 39, 128)", x.set(0, 39, 128), -128);
        is("set(0, 39, 511)", x.set(0, 39, 511), -1);
        is("set(0, 40, 1)", x.set(0, 40, 1), PLACE);
        is("set(0, -1, 1)", x.set(0, -1, 1), PLACE);
        is("set(7, 0, 1)", x.set(7, 0, 1), PLACE);
        is("set(8, 0, 1)", x.set(8, 0, 1), BAD);
        is("set(-1, 0, 1)", x.set(-1, 0, 1), BAD);
        is("set(1, -1, 1)", x.set(1, -1, 1), NULL);
        is("row(7, 1, 1)", x.row(7, 1, 1), 1);
        is("set(7, 0, 32768)", x.set(7, 0, 32768), -32768);
        is("set(7, 0, 65536)", x.set(7, 0, 65536), 0);
        is("set(3, 1, least)", x.set(3, 1, LEAST), LEAST);
        is("row(3, 2, -1)", x.row(3, 2, -1), SIZE);
        is("row(3, 0, 41)", x.row(3, 0, 41), BAD);
        is("drop(3)", x.drop(3), 2);
        is("drop(3)", x.drop(3), NULL);
        is("drop(8)", x.drop(8), BAD);
        is("set(3, 0, 0)", x.set(3, 0, 0), NULL);
        is("count(0)", x.count(0), 2);
    }

    private static void copies() {
        DUE.part("promise 4");
        FriezePolygons x = Due.of(PENTAGON);
        Due.fill(x, 0, 1, 2, 2, 1, 3, 9);
        is("copy(0, 0, 0, 1, 5)", x.copy(0, 0, 0, 1, 5), 5);
        is("back(0, 1)", x.back(0, 1), 1 << 3 | 1 << 4);
        Due.fill(x, 0, 9, 1, 2, 2, 1, 3);
        is("copy(0, 1, 0, 0, 5)", x.copy(0, 1, 0, 0, 5), 5);
        is("back(0, 0)", x.back(0, 0), 1 << 3 | 1 << 4);
        Due.fill(x, 1, 0, 0, 0, 0, 0);
        is("copy(0, 0, 1, 0, 5)", x.copy(0, 0, 1, 0, 5), 5);
        is("back(1, 0)", x.back(1, 0), 1 << 3 | 1 << 4);
        is("copy(0, 6, 1, 5, 0)", x.copy(0, 6, 1, 5, 0), 0);
        is("copy(0, 7, 1, 5, 0)", x.copy(0, 7, 1, 5, 0), PLACE);
        is("copy(0, 0, 1, 6, 0)", x.copy(0, 0, 1, 6, 0), PLACE);
        is("copy(0, 0, 1, 0, -1)", x.copy(0, 0, 1, 0, -1), PLACE);
        is("copy(0, -1, 1, 0, 1)", x.copy(0, -1, 1, 0, 1), PLACE);
        is("copy(0, 0, 1, -1, 1)", x.copy(0, 0, 1, -1, 1), PLACE);
        is("copy(0, 0, 1, 0, 6)", x.copy(0, 0, 1, 0, 6), PLACE);
        is("copy(0, most, 1, 0, most)", x.copy(0, MOST, 1, 0, MOST), PLACE);
        is("copy(0, 1, 1, 0, most)", x.copy(0, 1, 1, 0, MOST), PLACE);
        x.row(2, 1, 5);
        is("copy(0, -1, 2, 0, 0)", x.copy(0, -1, 2, 0, 0), STORE);
        is("copy(0, 0, 3, 0, 0)", x.copy(0, 0, 3, 0, 0), NULL);
        is("copy(3, 0, 0, 0, 0)", x.copy(3, 0, 0, 0, 0), NULL);
        is("copy(3, 0, 8, 0, 0)", x.copy(3, 0, 8, 0, 0), BAD);
        is("copy(-1, 0, 0, 0, 0)", x.copy(-1, 0, 0, 0, 0), BAD);
    }

    private static void feeds() {
        DUE.part("promise 6");
        FriezePolygons x = new FriezePolygons();
        is("feed(-1)", x.feed(-1), BAD);
        is("feed(256)", x.feed(256), BAD);
        is("feed(0)", x.feed(0), 1);
        is("feed(255)", x.feed(255), 2);
        for (int i = 3; i <= 120; i++) {
            is("feed('p')", x.feed('p'), i);
        }
        is("feed('p')", x.feed('p'), FULL);
        is("feed(256)", x.feed(256), BAD);
        is("count(5)", x.count(5), 120);
        is("polygon()", x.polygon(), -1000100);
        is("count(5)", x.count(5), 0);
        is("feed('p')", x.feed('p'), 1);
    }

    private static void texts() {
        DUE.part("promise 7, good texts");
        FriezePolygons x = new FriezePolygons();
        is("square", Due.read(x, SQUARE), 4);
        is("nine corners", Due.read(x, "p0;t1;m2;f3;o4;p5;t06;m7;f09;"), 9);
        for (int c = 0; c < 9; c++) {
            is("kind(" + c + ")", x.kind(c), c % 5 + 1);
            is("corner(" + c + ", 1)", x.corner(c, 1), c == 8 ? 9 : c);
        }
        is("cuts", Due.read(x, HEXAGON + "d0,2;d02,04;d0,4;"), 6);
        is("whole(1)", x.whole(1), 1 | 1 << 2 | 1 << 6);
        x.image(0);
        x.turn(1);
        x.row(0, 0, 3);
        is("square", Due.read(x, SQUARE + "d1,3;"), 4);
        is("undo()", x.undo(), STATE);
        is("count(0)", x.count(0), 1);
        is("restore(0)", x.restore(0), 1);
        is("whole(1)", x.whole(1), 1 | 1 << 2 | 1 << 6);
        is("fault()", x.fault(), 0);
    }

    private static void fault(String text, int number, int place) {
        FriezePolygons x = Due.of(PENTAGON + "d1,3;");
        x.turn(1);
        is("polygon() of " + text, Due.read(x, text), -1000100 - place);
        is("fault() of " + text, x.fault(), number);
        is("whole(1) behind " + text, x.whole(1), 1 << 4);
        is("count(4) behind " + text, x.count(4), 1);
        is("count(5) behind " + text, x.count(5), 0);
        is("square behind " + text, Due.read(x, SQUARE), 4);
        is("fault() behind " + text, x.fault(), number);
    }

    private static void faultsOfCorners() {
        DUE.part("promises 7, 8: corners");
        fault("", 1, 0);
        fault("p", 1, 1);
        fault("p0", 1, 2);
        fault("p0;p0;p0;", 1, 9);
        fault("p0;p0;p0;d0,2;", 1, 9);
        fault("p0;p0;p0;x0;", 1, 9);
        fault("pp0;p0;p0;p0;", 1, 1);
        fault("0;p0;p0;p0;", 1, 0);
        fault("p;p0;p0;p0;", 1, 1);
        fault("p0,p0;p0;p0;", 1, 2);
        fault(" " + SQUARE, 1, 0);
        fault("P0;p0;p0;p0;", 1, 0);
        fault("p10;p0;p0;p0;", 2, 1);
        fault("p99 ", 2, 1);
        fault("p000;p0;p0;p0;", 1, 1);
        fault("p0;p0;p0;p123456789;", 1, 10);
        fault(SQUARE + SQUARE + "p0;t0;", 3, 27);
        fault(SQUARE + SQUARE + "p0;x0;", 1, 27);
        fault(SQUARE + SQUARE + "p0;d0,2;p0;", 1, 32);
        fault(SQUARE + "\0", 1, 12);
        fault(SQUARE + (char) 255, 1, 12);
        fault(SQUARE + ";", 1, 12);
        fault(SQUARE + "7", 1, 12);
        fault(SQUARE + "p0", 1, 14);
    }

    private static void faultsOfCuts() {
        DUE.part("promises 7, 8: cuts");
        fault(SQUARE + "d", 1, 13);
        fault(SQUARE + "d0", 1, 14);
        fault(SQUARE + "d0,", 1, 15);
        fault(SQUARE + "d0,2", 1, 16);
        fault(SQUARE + "d0;2;", 1, 14);
        fault(SQUARE + "d,2;", 1, 13);
        fault(SQUARE + "d0,2,", 1, 16);
        fault(SQUARE + "d4,2;", 2, 13);
        fault(SQUARE + "d99", 2, 13);
        fault(SQUARE + "d100,2;", 1, 13);
        fault(SQUARE + "d0,4;", 2, 15);
        fault(SQUARE + "d0,200;", 1, 15);
        fault(SQUARE + "d0,0;", 2, 15);
        fault(SQUARE + "d0,1;", 2, 15);
        fault(SQUARE + "d0,3;", 2, 15);
        fault(SQUARE + "d2,0;", 2, 15);
        fault(SQUARE + "d3,3;", 2, 15);
        fault(SQUARE + "d0,2;d0,2;", 2, 20);
        fault(SQUARE + "d0,2;d1,3;", 2, 20);
        fault(SQUARE + "d0,2;p0;", 1, 17);
        fault(HEXAGON + "d1,4;d2,5;", 2, 26);
        fault(HEXAGON + "d1,4;d0,2;", 2, 26);
        fault(HEXAGON + "d0,1x", 2, 21);
    }

    private static void undone() {
        DUE.part("promise 9");
        FriezePolygons x = Due.of(HEXAGON + "d0,2;d0,3;d0,4;");
        Due.fill(x, 0, 2, 2, 1, 4, 1, 2);
        int start = x.whole(1);
        is("undo()", x.undo(), STATE);
        x.join(0);
        x.cut(1, 3);
        x.flip(1);
        x.turn(2);
        x.mirror();
        x.become(2, 5);
        x.number(2, 7);
        x.number(2, 7);
        x.lay(0);
        is("count(4)", x.count(4), 9);
        is("undo() of lay", x.undo(), 8);
        is("undo() of number", x.undo(), 7);
        is("corner(2, 1)", x.corner(2, 1), 7);
        is("undo() of number", x.undo(), 6);
        is("corner(2, 1)", x.corner(2, 1), 0);
        is("kind(2)", x.kind(2), 5);
        is("undo() of become", x.undo(), 5);
        is("kind(2)", x.kind(2), 1);
        is("undo() of mirror", x.undo(), 4);
        is("undo() of turn", x.undo(), 3);
        is("undo() of flip", x.undo(), 2);
        is("whole(1)", x.whole(1), 1 << 1 | 1 << 2 | 1 << 3);
        is("undo() of cut", x.undo(), 1);
        is("whole(0)", x.whole(0), 2);
        is("undo() of join", x.undo(), 0);
        is("whole(1)", x.whole(1), start);
        is("undo()", x.undo(), STATE);
    }

    private static void forgotten() {
        DUE.part("promise 9: the oldest is forgotten");
        FriezePolygons x = Due.of(SQUARE);
        for (int i = 1; i <= 30; i++) {
            x.number(1, i % 10);
            is("count(4)", x.count(4), Math.min(i, 24));
        }
        for (int left = 23; left >= 0; left--) {
            is("undo()", x.undo(), left);
            is("corner(1, 1)", x.corner(1, 1), (left + 6) % 10);
        }
        is("undo()", x.undo(), STATE);
        is("corner(1, 1)", x.corner(1, 1), 6);
        forgottenOfAllSorts();
    }

    private static void forgottenOfAllSorts() {
        FriezePolygons x = Due.of(PENTAGON + "d0,2;");
        int[][] seen = new int[31][];
        for (int i = 0; i <= 30; i++) {
            seen[i] = new int[] {x.whole(1), x.kind(i % 2), x.corner(i % 2, 1)};
            switch (i % 3) {
                case 0:
                    x.turn(1 + i % 4);
                    break;
                case 1:
                    x.become(i % 2, x.kind(i % 2) % 5 + 1);
                    break;
                default:
                    x.number(i % 2, i % 10);
            }
        }
        for (int i = 30; i >= 7; i--) {
            is("undo()", x.undo(), i - 7);
            is("whole(1) ahead of act " + i, x.whole(1), seen[i][0]);
            is("kind ahead of act " + i, x.kind(i % 2), seen[i][1]);
            is("K ahead of act " + i, x.corner(i % 2, 1), seen[i][2]);
        }
        is("undo()", x.undo(), STATE);
    }

    private static void cutsMade() {
        DUE.part("promise 10");
        FriezePolygons x = Due.of(HEXAGON);
        is("cut(0, 0)", x.cut(0, 0), BAD);
        is("cut(0, 1)", x.cut(0, 1), BAD);
        is("cut(1, 0)", x.cut(1, 0), BAD);
        is("cut(5, 0)", x.cut(5, 0), BAD);
        is("cut(0, 6)", x.cut(0, 6), BAD);
        is("cut(-1, 2)", x.cut(-1, 2), BAD);
        is("cut(least, most)", x.cut(LEAST, MOST), BAD);
        is("count(4)", x.count(4), 0);
        is("cut(4, 1)", x.cut(4, 1), 1);
        is("whole(1)", x.whole(1), 1 << 4);
        is("cut(1, 4)", x.cut(1, 4), STATE);
        is("cut(0, 2)", x.cut(0, 2), STATE);
        is("cut(3, 5)", x.cut(3, 5), STATE);
        is("cut(2, 5)", x.cut(2, 5), STATE);
        is("cut(4, 0)", x.cut(4, 0), 2);
        is("cut(1, 3)", x.cut(1, 3), 3);
        is("count(4)", x.count(4), 3);
    }

    private static void cutsJoined() {
        DUE.part("promise 11");
        FriezePolygons x = Due.of(HEXAGON + "d0,2;d2,4;");
        is("join(-1)", x.join(-1), BAD);
        is("join(9)", x.join(9), BAD);
        is("join(1)", x.join(1), STATE);
        is("join(0)", x.join(0), 1);
        is("join(0)", x.join(0), STATE);
        is("join(8)", x.join(8), STATE);
        is("join(6)", x.join(6), 0);
        is("count(4)", x.count(4), 2);
        is("join(0) of none", new FriezePolygons().join(0), BAD);
    }

    private static void cutsFlipped() {
        DUE.part("promise 12");
        FriezePolygons x = Due.of(HEXAGON + "d0,2;d0,3;");
        is("flip(-1)", x.flip(-1), BAD);
        is("flip(9)", x.flip(9), BAD);
        is("flip(2)", x.flip(2), STATE);
        is("flip(1)", x.flip(1), STATE);
        is("count(4)", x.count(4), 0);
        is("flip(0)", x.flip(0), 3);
        is("whole(1)", x.whole(1), 1 << 1 | 1 << 3);
        is("cut(0, 4)", x.cut(0, 4), 3);
        is("flip(1)", x.flip(1), 4);
        is("whole(1)", x.whole(1), 1 << 2 | 1 << 3 | 1 << 4);
        is("flip(0) of none", new FriezePolygons().flip(0), BAD);
        FriezePolygons square = Due.of(SQUARE + "d1,3;");
        is("cutOf(1, 3)", square.cutOf(1, 3), 0);
        is("flip(1)", square.flip(1), 0);
        is("flip(0)", square.flip(0), 1);
    }

    private static void turnedAndMirrored() {
        DUE.part("promises 13, 14");
        FriezePolygons x = Due.of("p0;t1;m2;f3;o4;d0,2;d0,3;");
        is("turn(0)", x.turn(0), BAD);
        is("turn(5)", x.turn(5), BAD);
        is("turn(-1)", x.turn(-1), BAD);
        is("turn(1)", x.turn(1), 1 << 2 | 1 << 3);
        is("turn(4)", x.turn(4), 1 | 1 << 1);
        is("turn(3)", x.turn(3), 1 << 1 | 1 << 2);
        is("kind(0)", x.kind(0), 1);
        is("kind(1)", x.kind(1), 2);
        is("turn(2)", x.turn(2), 1 | 1 << 1);
        is("mirror()", x.mirror(), 1 << 3 | 1 << 4);
        is("mirror()", x.mirror(), 1 | 1 << 1);
        is("kind(4)", x.kind(4), 5);
        is("count(4)", x.count(4), 6);
        FriezePolygons none = new FriezePolygons();
        is("turn(1) of none", none.turn(1), BAD);
        is("mirror() of none", none.mirror(), STATE);
        FriezePolygons bare = Due.of(SQUARE);
        is("turn(1) without cuts", bare.turn(1), 0);
        is("mirror() without cuts", bare.mirror(), 0);
        is("count(4)", bare.count(4), 2);
    }

    private static void cornersChanged() {
        DUE.part("promises 15, 16");
        FriezePolygons x = Due.of("p3;p0;p0;p0;d0,2;");
        is("become(0, 0)", x.become(0, 0), BAD);
        is("become(0, 6)", x.become(0, 6), BAD);
        is("become(4, 1)", x.become(4, 1), BAD);
        is("become(-1, 1)", x.become(-1, 1), BAD);
        is("become(0, 1)", x.become(0, 1), STATE);
        int[] due = {2, 4, -2, 3, 4};
        for (int kind = 2; kind <= 5; kind++) {
            is("become(0, " + kind + ")", x.become(0, kind), kind - 1);
            is("corner(0, 0)", x.corner(0, 0), due[kind - 1]);
        }
        is("become(0, 5)", x.become(0, 5), STATE);
        is("count(4)", x.count(4), 4);
        is("number(0, -1)", x.number(0, -1), BAD);
        is("number(0, 10)", x.number(0, 10), BAD);
        is("number(4, 0)", x.number(4, 0), BAD);
        is("number(0, 9)", x.number(0, 9), 3);
        is("number(0, 9)", x.number(0, 9), 9);
        is("number(0, 0)", x.number(0, 0), 9);
        is("count(4)", x.count(4), 7);
        is("number(0, 0) of none", new FriezePolygons().number(0, 0), BAD);
        is("become(0, 2) of none", new FriezePolygons().become(0, 2), BAD);
    }

    private static void laid() {
        DUE.part("promise 17");
        FriezePolygons none = new FriezePolygons();
        is("lay(8) of none", none.lay(8), STATE);
        FriezePolygons x = Due.of(PENTAGON);
        is("lay(8)", x.lay(8), BAD);
        is("lay(-1)", x.lay(-1), BAD);
        is("lay(0)", x.lay(0), NULL);
        Due.fill(x, 0, 1, 3, 1, 2);
        is("lay(0)", x.lay(0), PLACE);
        Due.fill(x, 0, 1, 3, 1, 2, 2, 7);
        is("lay(0)", x.lay(0), 1 << 2 | 1 << 3);
        is("whole(1)", x.whole(1), 1 << 2 | 1 << 3);
        is("lay(0)", x.lay(0), 1 << 2 | 1 << 3);
        is("count(4)", x.count(4), 2);
        Due.fill(x, 0, 1, 3, 1, 2, 3);
        is("lay(0)", x.lay(0), NONE);
        is("status()", x.status(), 0);
        is("count(4)", x.count(4), 2);
        is("whole(1)", x.whole(1), 1 << 2 | 1 << 3);
    }

    private static void corners() {
        DUE.part("promise 18");
        FriezePolygons x = Due.of("t5;p6;m7;f8;o9;p1;d0,2;d0,3;d3,5;");
        int[][] due = {{6, 5, 2, 12}, {1, 6, 0, 0}, {-2, 7, 1, 1}, {8, 8, 2, 33}, {10, 9, 0, 0}, {2, 1, 1, 8}};
        for (int c = 0; c < 6; c++) {
            for (int what = 0; what < 4; what++) {
                is("corner(" + c + ", " + what + ")", x.corner(c, what), due[c][what]);
            }
        }
        is("corner(0, 4)", x.corner(0, 4), BAD);
        is("corner(0, -1)", x.corner(0, -1), BAD);
        is("corner(6, 0)", x.corner(6, 0), BAD);
        is("corner(-1, 0)", x.corner(-1, 0), BAD);
    }

    private static void cutsOf() {
        DUE.part("promise 19");
        int[][] due = {{0, 2}, {0, 3}, {0, 4}, {1, 3}, {1, 4}, {1, 5}, {2, 4}, {2, 5}, {3, 5}};
        FriezePolygons x = Due.of(HEXAGON + "d0,2;d2,4;d0,4;");
        for (int cut = 0; cut < 9; cut++) {
            is("cutOf(" + cut + ", 0)", x.cutOf(cut, 0), due[cut][0]);
            is("cutOf(" + cut + ", 1)", x.cutOf(cut, 1), due[cut][1]);
            is("cutOf(" + cut + ", 2)", x.cutOf(cut, 2), cut == 0 || cut == 2 || cut == 6 ? 1 : 0);
        }
        is("cutOf(0, 3)", x.cutOf(0, 3), 4);
        is("cutOf(2, 3)", x.cutOf(2, 3), 7);
        is("cutOf(6, 3)", x.cutOf(6, 3), 1);
        is("cutOf(1, 3)", x.cutOf(1, 3), NONE);
        x.join(6);
        is("cutOf(0, 3)", x.cutOf(0, 3), NONE);
        is("cutOf(9, 0)", x.cutOf(9, 0), BAD);
        is("cutOf(-1, 0)", x.cutOf(-1, 0), BAD);
        is("cutOf(0, 4)", x.cutOf(0, 4), BAD);
        is("cutOf(0, -1)", x.cutOf(0, -1), BAD);
        is("cutOf(0, 0) of none", new FriezePolygons().cutOf(0, 0), BAD);
        FriezePolygons nine = Due.of(SQUARE + PENTAGON);
        is("cutOf(26, 0)", nine.cutOf(26, 0), 6);
        is("cutOf(26, 1)", nine.cutOf(26, 1), 8);
        is("cutOf(27, 0)", nine.cutOf(27, 0), BAD);
    }

    private static void friezes() {
        DUE.part("promise 20");
        FriezePolygons x = Due.of("f2;f3;m0;f0;");
        // counts 2, 3, -1, 0 behind corner 0: 3, -1, 0, 2, 3
        long[] due = {0, 1, 3, -4, -3, -2, -3};
        for (int k = 0; k < due.length; k++) {
            is("frieze(0, " + k + ")", x.frieze(0, k), due[k]);
        }
        is("frieze(3, 2)", x.frieze(3, 2), 2);
        is("frieze(3, 3)", x.frieze(3, 3), 5);
        is("frieze(0, -1)", x.frieze(0, -1), BAD);
        is("frieze(0, 21)", x.frieze(0, 21), BAD);
        is("frieze(4, 0)", x.frieze(4, 0), BAD);
        is("frieze(-1, 0)", x.frieze(-1, 0), BAD);
        is("frieze(0, 0) of none", new FriezePolygons().frieze(0, 0), BAD);
    }

    private static void friezesBeyond() {
        DUE.part("promise 20: beyond a long");
        FriezePolygons x = Due.of("t0;o9;o9;o9;o9;o9;o9;o9;o9;d0,2;d0,3;d0,4;d0,5;d0,6;d0,7;");
        is("corner(0, 0)", x.corner(0, 0), 14);
        is("frieze(0, 17)", x.frieze(0, 17), 12094302533896241L);
        is("frieze(0, 18)", x.frieze(0, 18), 119721252675272094L);
        is("frieze(0, 19)", x.frieze(0, 19), 14L * 119721252675272094L - 12094302533896241L);
        is("status()", x.status(), 0);
        is("frieze(0, 20)", x.frieze(0, 20), OVER);
        is("status()", x.status(), 6);
        is("frieze(0, 21)", x.frieze(0, 21), BAD);
        is("status()", x.status(), 6);
        is("frieze(0, 0)", x.frieze(0, 0), 0);
        is("status()", x.status(), 0);
        // the product 9282866616863206932 is beyond, though the number, 9204719953441983110, is not
        FriezePolygons close = Due.of("t0;o7;o9;o9;o9;o9;o9;o9;d0,2;d0,3;d0,4;d0,5;d0,6;");
        is("frieze(5, 20)", close.frieze(5, 20), OVER);
        is("frieze(5, 19)", close.frieze(5, 19), 773572218071933911L);
    }

    private static void wholes() {
        DUE.part("promise 21");
        FriezePolygons none = new FriezePolygons();
        is("whole(9) of none", none.whole(9), STATE);
        FriezePolygons x = Due.of(HEXAGON + "d0,2;d2,4;d0,4;");
        int[] due = {3, 1 | 1 << 2 | 1 << 6, 4, 1, 2, 0, 0, 1, 9};
        for (int what = 0; what < due.length; what++) {
            is("whole(" + what + ")", x.whole(what), due[what]);
        }
        is("whole(9)", x.whole(9), BAD);
        is("whole(-1)", x.whole(-1), BAD);
        x.become(1, 4);
        // counts 3, 0, 3, 1, 3, 1: F(0, 2) is 0, F(0, 3) is -1, F(0, 4) is -1, F(0, 5) is -2
        is("whole(3)", x.whole(3), 0);
        is("whole(4)", x.whole(4), 6);
        is("whole(5) has corner 0", x.whole(5) & 1, 1);
        is("whole(6) has corner 0", x.whole(6) & 1, 1);
        is("whole(7)", x.whole(7), 1);
        x.join(0);
        is("whole(7)", x.whole(7), 0);
        is("whole(2)", x.whole(2), 3);
        FriezePolygons bare = Due.of(SQUARE);
        FriezePolygons noughts = Due.of("f0;f0;f0;f0;");
        // the numbers are 0, 1, 0, -1, 0
        is("whole(3) of noughts", noughts.whole(3), 0);
        is("whole(5) of noughts", noughts.whole(5), 15);
        is("whole(6) of noughts", noughts.whole(6), 15);
        FriezePolygons mixed = Due.of("f1;f1;f2;f2;");
        // 0, 1, 1, 1 and 0, 1, 2, 3 and 0, 1, 2, 1 and 0, 1, 1, 0
        is("whole(3) of 1, 1, 2, 2", mixed.whole(3), 0);
        is("whole(4) of 1, 1, 2, 2", mixed.whole(4), 4);
        is("whole(5) of 1, 1, 2, 2", mixed.whole(5), 8);
        is("whole(6) of 1, 1, 2, 2", mixed.whole(6), 0);
        // counts of 1: the numbers are 0, 1, 1, 0, -1
        is("whole(3) of a bare square", bare.whole(3), 0);
        is("whole(4) of a bare square", bare.whole(4), 1);
        is("whole(5) of a bare square", bare.whole(5), 15);
        is("whole(6) of a bare square", bare.whole(6), 0);
    }

    private static void pieces() {
        DUE.part("promise 22");
        FriezePolygons x = Due.of(HEXAGON + "d0,2;d2,5;");
        int[] due = {7, 7, 60, 60, 60, 37};
        for (int c = 0; c < 6; c++) {
            is("piece(" + c + ")", x.piece(c), due[c]);
        }
        FriezePolygons three = Due.of(HEXAGON + "d1,3;d3,5;d1,5;");
        is("piece(0) beside three", three.piece(0), 35);
        is("piece(5) beside three", three.piece(5), 35);
        is("piece(1) beside three", three.piece(1), 14);
        is("piece(3) beside three", three.piece(3), 56);
        is("piece(6)", x.piece(6), BAD);
        is("piece(-1)", x.piece(-1), BAD);
        is("piece(0) of none", new FriezePolygons().piece(0), BAD);
    }

    private static void readBack() {
        DUE.part("promise 23");
        FriezePolygons none = new FriezePolygons();
        is("back(8, 0) of none", none.back(8, 0), STATE);
        FriezePolygons x = Due.of(SQUARE);
        is("back(8, -1)", x.back(8, -1), BAD);
        is("back(0, -1)", x.back(0, -1), NULL);
        Due.fill(x, 0, 1, 2, 1, 2, 1, 2);
        is("back(0, 0)", x.back(0, 0), 2);
        is("back(0, 1)", x.back(0, 1), 1);
        is("back(0, 2)", x.back(0, 2), 2);
        is("back(0, 3)", x.back(0, 3), PLACE);
        is("back(0, -1)", x.back(0, -1), PLACE);
        is("back(0, most)", x.back(0, MOST), PLACE);
        is("count(4)", x.count(4), 0);
        is("whole(1)", x.whole(1), 0);
        int[][] never = {{2, 2, 2, 2}, {1, 1, 1, 1}, {1, 2, 2, 2}, {1, 2, 0, 2}, {1, 3, 1, 2}, {1, 2, 1, 3},
            {0, 2, 1, 2}, {1, LEAST, 1, 2}, {1, 2, 1, LEAST}, {1, 2, LEAST, 2}, {1, MOST, 1, 2}, {1, 1, 2, 2}};
        for (int[] row : never) {
            Due.fill(x, 1, row);
            is("back of " + java.util.Arrays.toString(row), x.back(1, 0), NONE);
            is("status()", x.status(), 0);
        }
    }

    private static void ways() {
        DUE.part("promise 24");
        int[] bare = {2, 5, 14, 42, 132, 429};
        for (int n = 4; n <= 9; n++) {
            is("ways() of " + n, Due.of("p0;".repeat(n)).ways(), bare[n - 4]);
        }
        is("ways()", Due.of("p0;".repeat(9) + "d0,4;").ways(), 5 * 14);
        is("ways()", Due.of("p0;".repeat(9) + "d0,3;d3,6;d0,6;").ways(), 2 * 2 * 2);
        is("ways()", Due.of(HEXAGON + "d1,3;d3,5;d1,5;").ways(), 1);
        is("ways() of none", new FriezePolygons().ways(), STATE);
    }

    private static void likes() {
        DUE.part("promise 25");
        is("likes(2) of none", new FriezePolygons().likes(2), STATE);
        FriezePolygons x = Due.of(HEXAGON + "d1,3;d3,5;d1,5;");
        is("likes(0)", x.likes(0), 1 | 1 << 2 | 1 << 6);
        is("likes(1)", x.likes(1), 2);
        is("likes(2)", x.likes(2), BAD);
        is("likes(-1)", x.likes(-1), BAD);
        FriezePolygons zig = Due.of(HEXAGON + "d0,2;d2,5;d3,5;");
        is("likes(1) of a zigzag", zig.likes(1), 6);
        FriezePolygons fan = Due.of(HEXAGON + "d1,5;d2,5;d3,5;");
        is("likes(0) of a fan", fan.likes(0), 7);
        is("likes(1) of a fan", fan.likes(1), 6);
        is("likes(0) of a cut that is least", Due.of(HEXAGON + "d0,2;").likes(0), 1);
        FriezePolygons chiral = Due.of("p0;".repeat(7) + "d0,2;d0,3;d3,6;d3,5;");
        is("likes(1) of 7 corners", chiral.likes(1), 14);
        is("likes(1) of no cuts", Due.of(HEXAGON).likes(1), 1);
        is("count(4)", fan.count(4), 0);
    }

    private static void flips() {
        DUE.part("promise 26");
        is("flips(8) of none", new FriezePolygons().flips(8), STATE);
        FriezePolygons x = Due.of(PENTAGON + "d0,2;d0,3;");
        is("flips(8)", x.flips(8), BAD);
        is("flips(0)", x.flips(0), NULL);
        Due.fill(x, 0, 3, 1, 2, 2);
        is("flips(0)", x.flips(0), PLACE);
        // the five cuttings of a pentagon are a ring by flips
        int[][] rows = {{3, 1, 2, 2, 1}, {2, 2, 1, 3, 1}, {2, 1, 3, 1, 2}, {1, 3, 1, 2, 2}, {1, 2, 2, 1, 3}};
        int[] due = {0, 1, 1, 2, 2};
        for (int i = 0; i < rows.length; i++) {
            Due.fill(x, 0, rows[i]);
            is("flips(0) to row " + i, x.flips(0), due[i]);
        }
        Due.fill(x, 0, 3, 3, 3, 3, 3);
        is("flips(0) to none", x.flips(0), NONE);
        Due.fill(x, 0, rows[0]);
        x.join(0);
        is("flips(0) from what is not triangled", x.flips(0), NONE);
        is("status()", x.status(), 0);
    }

    private static void sets() {
        DUE.part("promise 27");
        is("sets(100, 3) of none", new FriezePolygons().sets(100, 3), STATE);
        FriezePolygons x = Due.of("f5;f2;f3;m0;");
        int[][] due = {{5, 2, 0, 7}, {0, 1, 0, 0}, {-1, 1, 8, 8}, {10, 1, 7, 7}, {9, 1, 15, 15}, {11, 0, 0, 0}};
        for (int[] one : due) {
            for (int what = 0; what < 3; what++) {
                is("sets(" + one[0] + ", " + what + ")", x.sets(one[0], what), one[what + 1]);
            }
        }
        is("sets(4, 0)", x.sets(4, 0), 2);
        is("sets(4, 1)", x.sets(4, 1), 8);
        is("sets(4, 2)", x.sets(4, 2), 15);
        is("sets(99, 0)", x.sets(99, 0), 0);
        is("sets(-99, 0)", x.sets(-99, 0), 0);
        is("sets(100, 0)", x.sets(100, 0), BAD);
        is("sets(-100, 0)", x.sets(-100, 0), BAD);
        is("sets(0, 3)", x.sets(0, 3), BAD);
        is("sets(0, -1)", x.sets(0, -1), BAD);
        is("sets(0, 0) of noughts", Due.of("f0;f0;f0;f0;").sets(0, 0), 16);
    }

    private static void who() {
        DUE.part("promise 28");
        FriezePolygons x = Due.of("p1;f3;m0;o1;t0;d0,2;");
        // counts 2, 3, -2, 2, 2
        Due.fill(x, 0, 2, 3, -2, 2, 2, 4);
        is("who(0, 0, 0, 0, 5)", x.who(0, 0, 0, 0, 5), 1 << 1 | 1 << 5);
        is("who(0, 1, 0, 0, 5)", x.who(0, 1, 0, 0, 5), 1023);
        is("who(1, 1, 0, 0, 5)", x.who(1, 1, 0, 0, 5), 1 << 3);
        is("who(3, 1, 0, 0, 5)", x.who(3, 1, 0, 0, 5), 1 << 1);
        is("who(4, 0, 0, 0, 4)", x.who(4, 0, 0, 0, 4), 62);
        is("who(0, 2, 0, 0, 5)", x.who(0, 2, 0, 0, 5), 0);
        // 2, 4 are cut 4: corner 2 counts -3, corner 4 counts 4
        Due.fill(x, 1, 0, 2, 3, -3, 2, 4);
        is("who(0, 2, 1, 1, 5)", x.who(0, 2, 1, 1, 5), 1 << 4);
        is("who(0, 2, 1, 1, 2)", x.who(0, 2, 1, 1, 2), 1 << 4);
        is("who(0, 2, 0, 0, 2)", x.who(0, 2, 0, 0, 2), 1 << 4);
        is("who(5, 2, 1, 1, 5)", x.who(5, 2, 1, 1, 5), BAD);
        is("who(-1, 0, 1, 1, 5)", x.who(-1, 0, 1, 1, 5), BAD);
        is("who(0, 3, 9, 0, 0)", x.who(0, 3, 9, 0, 0), BAD);
        is("who(0, -1, 0, 0, 1)", x.who(0, -1, 0, 0, 1), BAD);
        is("who(0, 3, 0, 0, 1)", x.who(0, 3, 0, 0, 1), BAD);
        is("who(0, 0, 8, 0, 1)", x.who(0, 0, 8, 0, 1), BAD);
        is("who(0, 0, 0, 0, 0)", x.who(0, 0, 0, 0, 0), BAD);
        is("who(0, 0, 7, 0, 6)", x.who(0, 0, 7, 0, 6), BAD);
        is("who(0, 0, 7, -1, 5)", x.who(0, 0, 7, -1, 5), NULL);
        is("who(0, 0, 0, 2, 5)", x.who(0, 0, 0, 2, 5), PLACE);
        is("who(0, 0, 0, -1, 5)", x.who(0, 0, 0, -1, 5), PLACE);
        is("who(0, 0, 0, most, 5)", x.who(0, 0, 0, MOST, 5), PLACE);
        is("who(0, 0, 0, 1, 5)", x.who(0, 0, 0, 1, 5), 0);
        is("count(4)", x.count(4), 0);
        FriezePolygons bare = Due.of(SQUARE);
        Due.fill(bare, 0, 2, 1);
        is("who(0, 2, 0, 0, 2)", bare.who(0, 2, 0, 0, 2), 1);
        is("who(0, 0, 0, 0, 2)", bare.who(0, 0, 0, 0, 2), 1 << 2);
        is("who(0, 0, 0, 0, 1) of none", new FriezePolygons().who(0, 0, 0, 0, 1), BAD);
    }

    private static void lost() {
        DUE.part("promise 29");
        is("lost(2, 11, 2) of none", new FriezePolygons().lost(2, 11, 2), STATE);
        FriezePolygons x = Due.of(PENTAGON + "d0,2;d0,3;");
        long[][] due = {{3, 5, 1, 4}, {4, 5, 3, 4}, {5, 5, 1, 1}, {3, 0, 1, 1}, {3, 10, 0, 1}, {4, 10, 0, 1},
            {5, 10, 1, 1}, {3, 1, 81, 100}, {4, 1, 99, 100}, {9, 3, 1, 1}};
        for (long[] one : due) {
            is("lost(" + one[0] + ", " + one[1] + ", 0)", x.lost((int) one[0], (int) one[1], 0), one[2]);
            is("lost(" + one[0] + ", " + one[1] + ", 1)", x.lost((int) one[0], (int) one[1], 1), one[3]);
        }
        is("lost(2, 5, 0)", x.lost(2, 5, 0), BAD);
        is("lost(10, 5, 0)", x.lost(10, 5, 0), BAD);
        is("lost(3, -1, 0)", x.lost(3, -1, 0), BAD);
        is("lost(3, 11, 0)", x.lost(3, 11, 0), BAD);
        is("lost(3, 5, 2)", x.lost(3, 5, 2), BAD);
        is("lost(3, 5, -1)", x.lost(3, 5, -1), BAD);
        FriezePolygons three = Due.of(HEXAGON + "d0,2;d2,4;d0,4;");
        // with any two of the cuts lost there is a piece of five corners, with one a piece of four
        is("lost(4, 2, 0)", three.lost(4, 2, 0), 512 / 8 + 384 / 8);
        is("lost(4, 2, 1)", three.lost(4, 2, 1), 1000 / 8);
        is("lost(5, 2, 0)", three.lost(5, 2, 0), 992 / 8);
        is("lost(3, 2, 0)", three.lost(3, 2, 0), 512 / 8);
        FriezePolygons bare = Due.of(PENTAGON);
        is("lost(4, 5, 0) of no cuts", bare.lost(4, 5, 0), 0);
        is("lost(4, 5, 1) of no cuts", bare.lost(4, 5, 1), 1);
        is("lost(5, 5, 0) of no cuts", bare.lost(5, 5, 0), 1);
    }

    private static void drawn() {
        DUE.part("promise 30");
        is("drawn(61, 0, 2) of none", new FriezePolygons().drawn(61, 0, 2), STATE);
        FriezePolygons square = Due.of(SQUARE + "d0,2;");
        is("drawn(0, 1, 0)", square.drawn(0, 1, 0), 0);
        is("drawn(0, 1, 1)", square.drawn(0, 1, 1), 1);
        is("drawn(1, 1, 1)", square.drawn(1, 1, 1), 2);
        is("drawn(60, 1, 0)", square.drawn(60, 1, 0), 60);
        is("drawn(60, 1, 1)", square.drawn(60, 1, 1), 1);
        is("drawn(60, 1, 0) of no cuts", Due.of(SQUARE).drawn(60, 1, 0), 0);
        FriezePolygons x = Due.of(PENTAGON + "d0,2;d0,3;");
        // of seed 1: 16807 is odd, so the second cut, 0 to 3, becomes 2 to 4; 282475249 is odd, so that one again
        is("drawn(1, 1, 1)", x.drawn(1, 1, 1), 1 | 1 << 4);
        is("drawn(2, 1, 1)", x.drawn(2, 1, 1), 1 | 1 << 1);
        // 1622650073 is odd, 984943658 is even: the first cut, 0 to 2, becomes 1 to 4
        is("drawn(4, 1, 1)", x.drawn(4, 1, 1), 1 << 3 | 1 << 4);
        is("drawn(4, 1, 0)", x.drawn(4, 1, 0), 4);
        FriezePolygons stuck = Due.of(HEXAGON + "d0,3;");
        is("drawn(60, 7, 0)", stuck.drawn(60, 7, 0), 0);
        is("drawn(60, 7, 1)", stuck.drawn(60, 7, 1), 2);
        is("drawn(-1, 1, 0)", x.drawn(-1, 1, 0), BAD);
        is("drawn(61, 1, 0)", x.drawn(61, 1, 0), BAD);
        is("drawn(1, 0, 0)", x.drawn(1, 0, 0), BAD);
        is("drawn(1, 1000000, 0)", x.drawn(1, 1000000, 0), BAD);
        is("drawn(1, 999999, 0)", x.drawn(1, 999999, 0), 1);
        is("drawn(1, 1, 2)", x.drawn(1, 1, 2), BAD);
        is("drawn(1, 1, -1)", x.drawn(1, 1, -1), BAD);
        is("whole(1)", x.whole(1), 3);
        is("count(4)", x.count(4), 0);
    }

    private static void images() {
        DUE.part("promises 31, 32");
        FriezePolygons x = new FriezePolygons();
        is("image(2)", x.image(2), BAD);
        is("image(-1)", x.image(-1), BAD);
        is("image(0)", x.image(0), STATE);
        is("restore(2)", x.restore(2), BAD);
        is("restore(-1)", x.restore(-1), BAD);
        is("restore(0)", x.restore(0), STATE);
        Due.read(x, "p1;t2;m3;f4;o5;d1,4;");
        is("image(0)", x.image(0), 1);
        x.become(0, 5);
        x.number(1, 9);
        x.join(3);
        is("image(1)", x.image(1), 1);
        is("count(4)", x.count(4), 3);
        Due.read(x, SQUARE);
        x.turn(1);
        is("restore(0)", x.restore(0), 1);
        is("count(4)", x.count(4), 0);
        is("undo()", x.undo(), STATE);
        is("count(1)", x.count(1), 5);
        is("whole(1)", x.whole(1), 1 << 3);
        is("kind(0)", x.kind(0), 1);
        is("corner(1, 1)", x.corner(1, 1), 2);
        is("restore(1)", x.restore(1), 1);
        is("whole(1)", x.whole(1), 0);
        is("kind(0)", x.kind(0), 5);
        is("corner(1, 1)", x.corner(1, 1), 9);
        x.number(1, 1);
        is("restore(1)", x.restore(1), 1);
        is("corner(1, 1)", x.corner(1, 1), 9);
    }

    private static void kinds() {
        DUE.part("promises 33, 34");
        FriezePolygons x = Due.of("p0;t0;m0;f0;o0;");
        boolean[][] due = {{true, true, false, false, false, false}, {true, true, true, false, false, false},
            {true, true, false, true, false, false}, {true, false, false, false, true, false},
            {true, false, false, false, true, true}};
        for (int one = 0; one < 5; one++) {
            is("kind(" + one + ")", x.kind(one), one + 1);
            for (int kind = 0; kind < 6; kind++) {
                is("as(" + one + ", " + kind + ")", x.as(one, kind), due[one][kind] ? one : KIND);
                is("status()", x.status(), due[one][kind] ? 0 : 3);
            }
        }
        is("as(5, 0)", x.as(5, 0), BAD);
        is("as(-1, 0)", x.as(-1, 0), BAD);
        is("as(0, 6)", x.as(0, 6), BAD);
        is("as(0, -1)", x.as(0, -1), BAD);
        is("kind(5)", x.kind(5), BAD);
        is("kind(-1)", x.kind(-1), BAD);
        is("kind(0) of none", new FriezePolygons().kind(0), BAD);
    }

    private static void asked(FriezePolygons x, int one, int what, int due, int... bodies) {
        is("ask(" + one + ", " + what + ")", x.ask(one, what), due);
        for (int i = 0; i < bodies.length; i++) {
            is("trace(" + i + ") of " + one + ", " + what, x.trace(i), bodies[i]);
        }
        is("trace behind the last", x.trace(bodies.length), NONE);
    }

    private static void asks() {
        DUE.part("promises 35, 36");
        FriezePolygons x = Due.of("p3;t3;m3;f3;o3;d0,2;d2,4;");
        // counts 2, 2, -3, 3, 4; cuts 1, 0, 2, 0, 1
        asked(x, 0, 0, 3, 11, 10, 21, 20);
        asked(x, 0, 1, 1, 21, 20);
        asked(x, 1, 0, -4, 12, 11, 10, 24, 21, 20);
        asked(x, 1, 1, 2, 24, 21, 20);
        asked(x, 2, 0, -999, 11, 10, 22, 21, 20);
        asked(x, 2, 1, -996, 22, 21, 20);
        asked(x, 3, 0, -97, 13, 10);
        asked(x, 3, 1, 100, 23, 20, 13, 10);
        asked(x, 4, 0, -192, 14, 13, 10);
        asked(x, 4, 1, 196, 23, 20, 14, 13, 10);
        is("ask(0, 2)", x.ask(0, 2), BAD);
        is("ask(0, -1)", x.ask(0, -1), BAD);
        is("ask(5, 0)", x.ask(5, 0), BAD);
        is("ask(-1, 0)", x.ask(-1, 0), BAD);
        is("trace(0)", x.trace(0), 23);
        is("trace(-1)", x.trace(-1), NONE);
        is("trace(16)", x.trace(16), NONE);
        is("trace(most)", x.trace(MOST), NONE);
    }

    private static void counts() {
        DUE.part("promise 37");
        FriezePolygons x = Due.of("p3;t3;m3;f3;o3;d0,2;d2,4;");
        x.row(4, 0, 0);
        x.mirror();
        x.feed('p');
        x.feed('p');
        // mirrored, the cuts are 2 to 4 and 0 to 2 again
        int[] due = {1, 5, 2, 2 + 2 - 3 + 3 + 4, 1, 2};
        for (int what = 0; what < due.length; what++) {
            is("count(" + what + ")", x.count(what), due[what]);
        }
        is("count(6)", x.count(6), BAD);
        is("count(-1)", x.count(-1), BAD);
    }

    private static void status() {
        DUE.part("promise 38");
        FriezePolygons x = Due.of(SQUARE);
        is("as(0, 5)", x.as(0, 5), KIND);
        is("status()", x.status(), 3);
        // neither what is refused nor a call that is not told of
        x.row(8, 0, 0);
        x.set(8, 0, 0);
        x.copy(8, 0, 0, 0, 0);
        x.drop(8);
        x.lay(8);
        x.back(8, 0);
        x.flips(8);
        x.who(0, 0, 8, 0, 1);
        x.as(0, 6);
        x.frieze(0, 21);
        x.whole(5);
        x.ask(0, 0);
        x.kind(0);
        x.ways();
        x.lost(3, 3, 0);
        x.mirror();
        x.polygon();
        x.image(0);
        x.restore(0);
        is("status()", x.status(), 3);
        is("set(0, 0, 0)", x.set(0, 0, 0), NULL);
        is("status()", x.status(), 1);
        x.as(0, 0);
        is("status()", x.status(), 0);
        int[] found = {x.drop(0), x.status(), x.row(0, 0, 4), x.status(), x.back(0, 1), x.status(), x.back(0, 0),
            x.status(), x.flips(1), x.status(), x.flips(0), x.status(), x.who(0, 0, 0, 4, 1), x.status(),
            x.who(0, 0, 0, 3, 1), x.status(), x.row(0, 0, -7), x.status(), x.lay(0), x.status()};
        int[] due = {NULL, 1, 4, 0, PLACE, 2, NONE, 0, NULL, 1, NONE, 0, PLACE, 2, 1 << 4, 0, SIZE, 4, NONE, 0};
        for (int i = 0; i < due.length; i++) {
            is("number " + i + " of findings", found[i], due[i]);
        }
        x.row(1, 1, 4);
        is("copy(0, 0, 1, 0, 1)", x.copy(0, 0, 1, 0, 1), STORE);
        is("status()", x.status(), 5);
        x.frieze(0, 1);
        is("status()", x.status(), 0);
        statusOfWhatIsFine();
    }

    /** Each call that has no finding takes the one before away. */
    private static void statusOfWhatIsFine() {
        FriezePolygons x = Due.of(SQUARE + "d0,2;");
        Due.fill(x, 0, 2, 1, 2, 1);
        for (int call = 0; call < 12; call++) {
            is("as(0, 5)", x.as(0, 5), KIND);
            is("status()", x.status(), 3);
            long[] due = {4, 1, 2, 1, 0, 1, 1, 0, 34, 0, 0, 0};
            is("call " + call, fineCall(x, call), due[call]);
            is("status() behind call " + call, x.status(), 0);
        }
    }

    private static long fineCall(FriezePolygons x, int call) {
        switch (call) {
            case 0:
                return x.row(1, 2, 4);
            case 1:
                return x.set(1, 0, 1);
            case 2:
                return x.copy(0, 0, 1, 0, 2);
            case 3:
                return x.back(0, 0);
            case 4:
                return x.flips(0);
            case 5:
                return x.lay(0);
            case 6:
                return x.frieze(0, 1);
            case 7:
                return x.as(0, 1);
            case 8:
                x.number(1, 0);
                return x.who(1, 0, 0, 0, 4);
            case 9:
                return x.who(0, 1, 0, 1, 4 - 1) == 0 ? 0 : -1;
            case 10:
                return x.who(0, 2, 0, 0, 4);
            default:
                x.row(1, 0, 0);
                x.as(0, 5);
                return x.drop(1);
        }
    }
}
