/** The edges of promises 9 to 17 and of what the terms say of acts. */
final class ActEdges {
    private static final String FAN = Edges.plain(6, "d0,2;d0,3;d0,4;");

    private ActEdges() {
    }

    static void all(Edges e) {
        undo(e);
        actsKept(e);
        actsOfEachSort(e);
        actsOfNothing(e);
        cut(e);
        cutOutOfRange(e);
        crossing(e);
        join(e);
        flip(e);
        turn(e);
        turnRefused(e);
        mirror(e);
        become(e);
        number(e);
        lay(e);
        layRefused(e);
    }

    private static void undo(Edges e) {
        e.promise(9, "The latest ACT is undone: how many can be undone yet.");
        e.run(FAN, "number(0,1) number(0,2) number(0,3) undo()=2 corner(0,1)=2 undo()=1 corner(0,1)=1",
                "undo()=0 corner(0,1)=0");
        // what is undone does not come again
        e.run(FAN, "number(0,1) number(0,2) undo()=1 number(0,3)=1 undo()=1 corner(0,1)=1 undo()=0 corner(0,1)=0",
                "undo()=STATE");
        e.promise(9, "STATE: none.");
        e.run("undo()=STATE", FAN, "undo()=STATE join(0)=2 undo()=0 undo()=STATE whole(1)={0,1,2}");
        e.run(FAN, "turn(1) image(0) restore(0) undo()=STATE turn(1)", FAN, "undo()=STATE");
        // what is refused is no act
        e.run(FAN, "cut(0,2)=STATE cut(0,1)=BAD join(3)=STATE flip(3)=STATE turn(0)=BAD become(0,1)=STATE",
                "number(0,10)=BAD lay(0)=NULL 0:[2,2,2,2,2,2] lay(0)=NONE count(4)=0 undo()=STATE");
    }

    /** Numbers are told to a corner, each the last figure of how many were told with it, and all is undone. */
    private static void toldAndUndone(Edges e, int many) {
        StringBuilder calls = new StringBuilder(Edges.plain(4));
        for (int i = 1; i <= many; i++) {
            calls.append(" number(1,").append(i % 10).append(")");
        }
        int kept = Math.min(many, 24);
        calls.append(" count(4)=").append(kept);
        for (int left = kept - 1; left >= 0; left--) {
            boolean last = left == 0 || left == kept - 1;
            calls.append(" undo()").append(last ? "=" + left : "");
        }
        int first = many - kept;
        e.run(calls + " corner(1,1)=" + first % 10 + " undo()=STATE corner(1,1)=" + first % 10);
    }

    private static void actsKept(Edges e) {
        e.terms("ACTS (24 at most are kept, of more the oldest is forgotten; each can be undone, the latest first;");
        for (int many : new int[] {1, 23, 24, 25, 26, 47, 48, 49}) {
            toldAndUndone(e, many);
        }
        // one undone of 24 leaves room for one, so that the oldest is not forgotten
        StringBuilder calls = new StringBuilder(Edges.plain(4));
        for (int i = 1; i <= 24; i++) {
            calls.append(" number(1,5)");
        }
        e.run(calls + " undo()=23 number(1,6)=5 count(4)=24", " undo()".repeat(23), "corner(1,1)=5 undo()=0",
                "corner(1,1)=0 undo()=STATE");
        e.run(calls + " mirror()=0 count(4)=24 become(0,2)=1 count(4)=24", " undo()".repeat(23),
                "corner(1,1)=5 undo()=0 corner(1,1)=5 undo()=STATE kind(0)=1");
        actsMixed(e);
    }

    /** Acts of several sorts at several corners; what the oldest that is kept changed is there at last. */
    private static void actsMixed(Edges e) {
        int many = 31;
        int[] turned = {0, 2, 4, 1, 3};
        int[] kinds = {1, 1, 1, 1, 1};
        int[] numbers = new int[5];
        String[] looks = new String[many];
        StringBuilder calls = new StringBuilder(Edges.plain(5, "d0,2;"));
        int turns = 0;
        for (int i = 0; i < many; i++) {
            int c = i % 5;
            looks[i] = " whole(1)={" + turned[turns % 5] + "} kind(" + c + ")=" + kinds[c] + " corner(" + c + ",1)="
                    + numbers[c];
            if (i % 3 == 0) {
                turns++;
                calls.append(" turn(1)");
            } else if (i % 3 == 1) {
                kinds[c] = kinds[c] % 5 + 1;
                calls.append(" become(").append(c).append(',').append(kinds[c]).append(')');
            } else {
                numbers[c] = i % 10;
                calls.append(" number(").append(c).append(',').append(i % 10).append(')');
            }
        }
        for (int left = 23; left >= 0; left--) {
            calls.append(" undo()=").append(left).append(looks[left + many - 24]);
        }
        e.run(calls + " undo()=STATE");
    }

    private static void actsOfEachSort(Edges e) {
        e.terms("a CUT is made; taken out; FLIPPED;");
        e.run(Edges.plain(6, "d0,2;"), "cut(5,2)=2 whole(1)={0,7} undo()=0 whole(1)={0}");
        e.run(FAN, "join(1)=2 whole(1)={0,2} undo()=0 whole(1)={0,1,2}");
        e.run(FAN, "flip(1)=6 whole(1)={0,2,6} undo()=0 whole(1)={0,1,2}");
        e.terms("all CUTS are TURNED by r (each CORNER of a CUT becomes the one r behind);");
        e.run(FAN, "turn(1)={3,4,5} undo()=0 whole(1)={0,1,2} turn(5)={5,7,8} undo()=0 whole(1)={0,1,2}");
        e.terms("MIRRORED (each CORNER c becomes n less 1 less c);");
        e.run(FAN, "mirror()={5,7,8} undo()=0 whole(1)={0,1,2}");
        e.terms("a CORNER is of another KIND; K is told anew;");
        e.run("<p1;t2;m3;f4;o5;>=5 become(4,1)=5 become(0,5)=1 undo()=1 kind(0)=1 kind(4)=1 undo()=0 kind(4)=5");
        e.run("<p1;t2;m3;f4;o5;>=5 number(4,0)=5 number(0,9)=1 undo()=1 corner(0,1)=1 corner(4,1)=0 undo()=0",
                "corner(4,1)=5");
        e.run(Edges.plain(9), "number(8,5)=0 become(8,5)=1 undo()=1 kind(8)=1 undo()=0 corner(8,1)=0");
        e.terms("READ BACK a row is laid in place of all CUTS.");
        e.run(FAN, "0:[1,4,1,2,2,2] lay(0)={3,4,5} undo()=0 whole(1)={0,1,2}");
    }

    private static void actsOfNothing(Edges e) {
        e.terms("also such by which nothing becomes another):");
        e.run(Edges.plain(4), "turn(1)=0 mirror()=0 number(0,0)=0 count(4)=3 undo()=2 undo()=1 undo()=0 undo()=STATE");
        e.run(Edges.plain(4, "d0,2;"), "turn(2)={0} count(4)=1 0:[2,1,2,1] lay(0)={0} count(4)=2 undo()=1 undo()=0");
        e.run(Edges.plain(6, "d1,4;"), "mirror()={4} turn(3)={4} count(4)=2 undo()=1 whole(1)={4}");
    }

    private static void cut(Edges e) {
        e.promise(10, "A CUT of two CORNERS (in any order) is made: how many there are then.");
        e.run(Edges.plain(4), "cut(0,2)=1 whole(1)={0} undo()=0 cut(2,0)=1 whole(1)={0} undo()=0 cut(3,1)=1");
        e.run(Edges.plain(9), "cut(7,0)=1 cut(8,6)=STATE cut(0,2)=2 cut(2,7)=3 cut(3,7)=4 cut(7,4)=5 cut(5,7)=6",
                "whole(7)=1 count(2)=6");
        e.promise(10, "STATE: it is there, or crosses one.");
        e.run(Edges.plain(4, "d0,2;"), "cut(0,2)=STATE cut(2,0)=STATE cut(1,3)=STATE cut(3,1)=STATE");
        // all that there is room for is there: each other cut crosses one
        StringBuilder full = new StringBuilder(Edges.plain(9, Edges.fan(6)));
        for (int a = 0; a < 9; a++) {
            for (int b = a + 1; b < 9; b++) {
                full.append(" cut(").append(a).append(',').append(b).append(Edges.canBe(9, a, b) ? ")=STATE" : ")=BAD");
            }
        }
        e.run(full + " count(2)=6 count(4)=0");
    }

    private static void cutOutOfRange(Edges e) {
        e.promise(10, "BAD: no CUT can be there (side by side, one and the same), too;");
        e.run("cut(0,2)=BAD cut(0,0)=BAD");
        for (int n = 4; n <= 9; n++) {
            for (int a = -1; a <= n; a++) {
                StringBuilder calls = new StringBuilder(Edges.plain(n));
                for (int b = -1; b <= n; b++) {
                    calls.append(" cut(").append(a).append(',').append(b).append(")=");
                    calls.append(Edges.canBe(n, a, b) ? "1 undo()=0" : "BAD");
                }
                e.run(calls.toString());
            }
        }
        e.run(Edges.plain(4), "cut(MIN,2)=BAD cut(2,MIN)=BAD cut(MAX,0)=BAD cut(0,MAX)=BAD cut(MIN,MAX)=BAD",
                "cut(MIN,0)=BAD cut(-2,0)=BAD cut(4,6)=BAD count(2)=0");
        // ahead of STATE
        e.run(Edges.plain(4, "d0,2;"), "cut(0,1)=BAD cut(1,1)=BAD cut(3,0)=BAD cut(2,4)=BAD");
    }

    private static void crossing(Edges e) {
        e.terms("Two CUTS cross, if of the CORNERS of the one just one lies on each side of the other.");
        for (int n = 4; n <= 9; n++) {
            for (int a = 0; a < n; a++) {
                for (int b = a + 2; b < n; b++) {
                    if (Edges.canBe(n, a, b)) {
                        e.run(Edges.plain(n, "d" + a + "," + b + ";"), besides(n, a, b));
                    }
                }
            }
        }
    }

    /** Each other cut is tried beside one that is there, and undone. */
    private static String besides(int n, int a, int b) {
        StringBuilder calls = new StringBuilder();
        for (int c = 0; c < n; c++) {
            for (int d = c + 2; d < n; d++) {
                boolean same = a == c && b == d;
                boolean cross = a < c && c < b && b < d || c < a && a < d && d < b;
                if (Edges.canBe(n, c, d)) {
                    calls.append(" cut(").append(c).append(',').append(d).append(")=");
                    calls.append(same || cross ? "STATE" : "2 undo()");
                }
            }
        }
        return calls.toString();
    }

    private static void join(Edges e) {
        e.promise(11, "A CUT (its number) is taken out: how many there are then.");
        e.run(FAN, "join(1)=2 whole(1)={0,2} join(0)=1 join(2)=0 whole(1)=0 count(4)=3");
        e.run(Edges.plain(9, "d6,8;"), "join(26)=0 join(26)=STATE");
        e.promise(11, "BAD: there is no such number;");
        e.run("join(0)=BAD join(-1)=BAD");
        for (int n = 4; n <= 9; n++) {
            int numbers = n * (n - 3) / 2;
            e.run(Edges.plain(n, Edges.fan(1)), "join(-1)=BAD join(MIN)=BAD join(MAX)=BAD join(32)=BAD join(" + numbers
                    + ")=BAD join(" + (numbers - 1) + ")=STATE join(0)=0");
        }
        e.promise(11, "STATE: it is not there.");
        e.run(FAN, "join(3)=STATE join(8)=STATE join(0)=2 join(0)=STATE count(4)=1");
        e.run(Edges.plain(4), "join(0)=STATE join(1)=STATE join(2)=BAD");
    }

    private static void flip(Edges e) {
        e.promise(12, "A CUT is FLIPPED: the number of that which it becomes.");
        e.run(Edges.plain(4, "d0,2;"), "flip(0)=1 whole(1)={1} flip(1)=0 whole(1)={0} count(4)=2");
        e.run(Edges.plain(9, "d1,8;d2,8;d3,8;d4,8;d5,8;d6,8;"), "flip(26)=24 flip(24)=26 flip(11)=0 count(2)=6");
        e.terms("FLIPPED a CUT between two triangles becomes the other CUT of the four CORNERS.");
        // one whose four corners are behind the last one, too
        e.run(Edges.plain(6, "d0,2;d2,4;d0,4;"), "flip(0)=4 flip(4)=0 flip(2)=7 flip(7)=2 flip(6)=1 flip(1)=6");
        e.run(Edges.plain(5, "d0,2;d0,3;"), "flip(0)=2 flip(1)=3 flip(2)=4 flip(3)=0 flip(4)=1 whole(1)={0,1}");
        e.promise(12, "BAD: there is no such number;");
        e.run("flip(0)=BAD flip(-1)=BAD");
        for (int n = 4; n <= 9; n++) {
            int numbers = n * (n - 3) / 2;
            e.run(Edges.plain(n), "flip(-1)=BAD flip(MIN)=BAD flip(MAX)=BAD flip(32)=BAD flip(" + numbers
                    + ")=BAD flip(" + (numbers - 1) + ")=STATE");
        }
        e.promise(12, "STATE: it is not there, or not between two triangles.");
        e.run(FAN, "flip(3)=STATE flip(8)=STATE join(1) flip(1)=STATE");
        // beside a triangle and a piece of four, between two of four, beside one of eight
        e.run(Edges.plain(6, "d0,2;d0,3;"), "flip(1)=STATE flip(0)=3");
        e.run(Edges.plain(6, "d0,3;d0,4;"), "flip(1)=STATE flip(2)=8");
        e.run(Edges.plain(6, "d0,3;"), "flip(1)=STATE");
        e.run(Edges.plain(9, "d0,2;"), "flip(0)=STATE");
        e.run(Edges.plain(6, "d0,2;d2,4;"), "flip(0)=STATE flip(6)=STATE cut(0,4) flip(0)=4");
    }

    private static void turn(Edges e) {
        e.promise(13, "All CUTS are TURNED by r (1 to n less 1): their bits then.");
        e.run(Edges.plain(4, "d0,2;"), "turn(1)={1} turn(3)={0} turn(2)={0}");
        // by each r the first cut of five corners comes to another one
        e.run(Edges.plain(5, "d0,2;"), "turn(1)={2} undo() turn(2)={4} undo() turn(3)={1} undo() turn(4)={3}");
        e.run(Edges.plain(9, "d0,7;d1,3;"), "turn(8)={0,26} turn(1)={5,6} turn(2)={0,17}");
        e.run("<p1;t2;m3;f4;o5;d0,2;>=5 turn(4)={3} kind(0)=1 kind(4)=5 corner(4,1)=5 corner(0,1)=1");
    }

    private static void turnRefused(Edges e) {
        e.promise(13, "BAD (without a POLYGON, too).");
        e.run("turn(1)=BAD turn(0)=BAD turn(-1)=BAD turn(MIN)=BAD turn(MAX)=BAD");
        for (int n = 4; n <= 9; n++) {
            e.run(Edges.plain(n, Edges.fan(1)), "turn(0)=BAD turn(-1)=BAD turn(MIN)=BAD turn(MAX)=BAD turn(" + n
                    + ")=BAD turn(" + (n + 1) + ")=BAD turn(" + (n - 1) + ") count(4)=1 turn(1)={0} count(4)=2");
        }
    }

    private static void mirror(Edges e) {
        e.promise(14, "All CUTS are MIRRORED: their bits then.");
        e.run(Edges.plain(4, "d0,2;"), "mirror()={1} mirror()={0}");
        e.run(Edges.plain(5, "d0,2;d0,3;"), "mirror()={3,4} mirror()={0,1}");
        e.run(Edges.plain(9, "d0,7;d3,5;"), "mirror()={11,17} mirror()={5,17} count(4)=2");
        e.run(Edges.plain(4), "mirror()=0");
        e.run("<p1;t2;m3;f4;o5;d0,2;>=5 mirror()={4} kind(0)=1 kind(4)=5 corner(4,1)=5 corner(0,1)=1");
        e.promise(14, "STATE: no POLYGON.");
        e.run("mirror()=STATE <p>=F1 mirror()=STATE");
    }

    private static void become(Edges e) {
        e.promise(15, "A CORNER is of another KIND (1 to 5): what it was.");
        e.run("<p1;t2;m3;f4;o5;>=5 become(0,5)=1 become(1,1)=2 become(2,2)=3 become(3,3)=4 become(4,4)=5 kind(0)=5",
                "kind(1)=1 kind(2)=2 kind(3)=3 kind(4)=4 count(4)=5 corner(0,1)=1 corner(4,1)=5");
        e.promise(15, "BAD;");
        e.run("become(0,1)=BAD become(0,2)=BAD");
        e.run(Edges.plain(4), "become(-1,2)=BAD become(4,2)=BAD become(MIN,2)=BAD become(MAX,2)=BAD become(0,0)=BAD",
                "become(0,6)=BAD become(0,-1)=BAD become(0,MIN)=BAD become(0,MAX)=BAD become(3,2)=1 become(4,1)=BAD");
        e.run(Edges.plain(9), "become(8,5)=1 become(9,5)=BAD");
        e.promise(15, "STATE: it is that.");
        e.run("<p1;t2;m3;f4;o5;>=5 become(0,1)=STATE become(1,2)=STATE become(2,3)=STATE become(3,4)=STATE",
                "become(4,5)=STATE count(4)=0 become(0,2)=1 become(0,2)=STATE become(0,1)=2 count(4)=2");
    }

    private static void number(Edges e) {
        e.promise(16, "K of a CORNER is k (0 to 9; an ACT also if it is that): what it was.");
        e.run("<p1;t2;m3;f4;o5;>=5 number(0,0)=1 number(1,9)=2 number(2,3)=3 number(3,3)=4 number(4,5)=5 count(4)=5",
                "corner(0,1)=0 corner(1,1)=9 corner(2,1)=3 corner(3,0)=3 corner(4,0)=6 undo()=4 corner(4,1)=5");
        e.promise(16, "BAD.");
        e.run("number(0,0)=BAD");
        e.run(Edges.plain(4), "number(0,-1)=BAD number(0,10)=BAD number(0,MIN)=BAD number(0,MAX)=BAD number(-1,0)=BAD",
                "number(4,0)=BAD number(MIN,0)=BAD number(MAX,0)=BAD number(3,9)=0 count(4)=1");
        e.run(Edges.plain(9), "number(8,9)=0 number(9,9)=BAD");
    }

    private static void lay(Edges e) {
        e.promise(17, "READ BACK as many ITEMS of a ROW from 0 on as there are CORNERS, and laid: bits of the CUTS;");
        e.run(Edges.plain(4), "0:[2,1,2,1] lay(0)={0} whole(1)={0} 7:[1,2,1,2] lay(7)={1} whole(1)={1} count(4)=2");
        e.run(Edges.plain(9), "0:[7,1,2,2,2,2,2,2,1] lay(0)={0,1,2,3,4,5} whole(1)={0,1,2,3,4,5}");
        // more items than corners: the first count
        e.run(Edges.plain(4), "0:[2,1,2,1,9,9] lay(0)={0} row(1,0,40)=40 set(1,0,1) set(1,1,2) set(1,2,1) set(1,3,2)",
                "lay(1)={1}");
        // what is no plain corner counts as the row says, too
        e.run("<f9;m0;o9;t0;>=4 0:[2,1,2,1] lay(0)={0} kind(0)=4 corner(0,0)=9");
        e.promise(17, "NONE: it can not be (no ACT).");
        e.run(FAN, "0:[2,2,2,2,2,2] lay(0)=NONE 0:[1,4,1,2,2,3] lay(0)=NONE whole(1)={0,1,2} count(4)=0 status()=0");
    }

    private static void layRefused(Edges e) {
        e.promise(17, "BAD: ROW;");
        e.run(FAN, "lay(-1)=BAD lay(8)=BAD lay(MIN)=BAD lay(MAX)=BAD");
        e.promise(17, "STATE: no POLYGON (ahead of BAD);");
        e.run("lay(-1)=STATE lay(8)=STATE lay(MIN)=STATE lay(0)=STATE 0:[2,1,2,1] lay(0)=STATE status()=0");
        e.promise(17, "NULL;");
        e.run(FAN, "lay(0)=NULL lay(7)=NULL status()=1");
        e.promise(17, "PLACE.");
        e.run(FAN, "0:[1,4,1,2,2] lay(0)=PLACE row(0,0,0)=0 lay(0)=PLACE 0:[1,4,1,2,2,2] lay(0)={3,4,5}");
        e.run(Edges.plain(9), "0:[7,1,2,2,2,2,2,2] lay(0)=PLACE count(4)=0");
    }
}
