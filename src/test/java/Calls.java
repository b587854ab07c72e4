/** The calls of the face by their names. */
final class Calls {
    private Calls() {
    }

    static long on(FriezePolygons x, String name, int... a) {
        switch (a.length) {
            case 0:
                return withNone(x, name);
            case 1:
                return withOne(x, name, a[0]);
            case 2:
                return withTwo(x, name, a[0], a[1]);
            case 3:
                return withThree(x, name, a);
            default:
                return withFive(x, name, a);
        }
    }

    private static long unknown(String name) {
        throw new IllegalArgumentException("the face has no such call: " + name);
    }

    private static long withNone(FriezePolygons x, String name) {
        switch (name) {
            case "polygon":
                return x.polygon();
            case "fault":
                return x.fault();
            case "undo":
                return x.undo();
            case "mirror":
                return x.mirror();
            case "ways":
                return x.ways();
            case "status":
                return x.status();
            default:
                return unknown(name);
        }
    }

    private static long withOne(FriezePolygons x, String name, int a) {
        switch (name) {
            case "drop":
                return x.drop(a);
            case "feed":
                return x.feed(a);
            case "join":
                return x.join(a);
            case "flip":
                return x.flip(a);
            case "turn":
                return x.turn(a);
            case "lay":
                return x.lay(a);
            case "whole":
                return x.whole(a);
            case "piece":
                return x.piece(a);
            case "likes":
                return x.likes(a);
            case "flips":
                return x.flips(a);
            case "image":
                return x.image(a);
            case "restore":
                return x.restore(a);
            case "kind":
                return x.kind(a);
            case "trace":
                return x.trace(a);
            case "count":
                return x.count(a);
            default:
                return unknown(name);
        }
    }

    private static long withTwo(FriezePolygons x, String name, int a, int b) {
        switch (name) {
            case "cut":
                return x.cut(a, b);
            case "become":
                return x.become(a, b);
            case "number":
                return x.number(a, b);
            case "corner":
                return x.corner(a, b);
            case "cutOf":
                return x.cutOf(a, b);
            case "frieze":
                return x.frieze(a, b);
            case "back":
                return x.back(a, b);
            case "sets":
                return x.sets(a, b);
            case "as":
                return x.as(a, b);
            case "ask":
                return x.ask(a, b);
            default:
                return unknown(name);
        }
    }

    private static long withThree(FriezePolygons x, String name, int[] a) {
        switch (name) {
            case "row":
                return x.row(a[0], a[1], a[2]);
            case "set":
                return x.set(a[0], a[1], a[2]);
            case "lost":
                return x.lost(a[0], a[1], a[2]);
            case "drawn":
                return x.drawn(a[0], a[1], a[2]);
            default:
                return unknown(name);
        }
    }

    private static long withFive(FriezePolygons x, String name, int[] a) {
        switch (name) {
            case "copy":
                return x.copy(a[0], a[1], a[2], a[3], a[4]);
            case "who":
                return x.who(a[0], a[1], a[2], a[3], a[4]);
            default:
                return unknown(name);
        }
    }
}
