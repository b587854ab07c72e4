/** The edges of promises 33 to 38 and of what the terms say of refusals, kinds and asks. */
final class AskedEdges {
    /** One of each kind: they count 2, 2, -3, 3, 4 and have 1, 0, 2, 0, 1 cuts. */
    private static final String FIVE = "<p3;t3;m3;f3;o3;d0,2;d2,4;>=5";
    /** One that has all cuts at its last corner. */
    private static final String NINE = Edges.plain(9, "d1,8;d2,8;d3,8;d4,8;d5,8;d6,8;");

    private AskedEdges() {
    }

    static void all(Edges e) {
        fromNought(e);
        refusals(e);
        findings(e);
        unchanged(e);
        kinds(e);
        kind(e);
        as(e);
        sizes(e);
        marks(e);
        nearest(e);
        ask(e);
        trace(e);
        count(e);
        countRefused(e);
        status(e);
        statusByCall(e);
        life(e);
    }

    private static void fromNought(Edges e) {
        e.terms("Numbers go from 0 on.");
        e.run(FIVE, "kind(0)=1 kind(-1)=BAD cutOf(0,2)=1 cutOf(-1,2)=BAD row(0,0,1)=1 row(-1,0,1)=BAD set(0,0,1)=1",
                "set(0,-1,1)=PLACE image(0)=1 image(-1)=BAD ask(0,0)=3 ask(0,-1)=BAD trace(0)=11 trace(-1)=NONE");
        e.terms("Sets are bits.");
        e.run(Edges.plain(4, "d1,3;"), "whole(1)=2 corner(1,3)=8 corner(3,3)=2 piece(0)=11 piece(1)=14");
    }

    private static void refusals(Edges e) {
        e.terms("Refusals are answers, the first of these that fits, but as told: BAD (a number is not as told; "
                + "there is no "
                + "such thing), STATE (as told), FULL (as told), then FINDINGS, of several the first in time:");
        // BAD ahead of STATE
        e.run("image(2)=BAD restore(2)=BAD", Edges.plain(4, "d0,2;"), "cut(0,4)=BAD join(2)=BAD flip(2)=BAD",
                "become(0,6)=BAD",
                "become(4,1)=BAD");
        // as told: STATE ahead of BAD
        e.run("lay(8)=STATE whole(9)=STATE back(8,0)=STATE likes(2)=STATE flips(8)=STATE sets(100,0)=STATE",
                "lost(2,0,0)=STATE drawn(61,1,0)=STATE");
        // STATE ahead of findings: the row is missing, too
        e.run("lay(0)=STATE back(0,-1)=STATE flips(0)=STATE status()=0");
        // BAD ahead of FULL
        e.run("+" + "x".repeat(120), "feed(256)=BAD feed(255)=FULL");
        // BAD ahead of findings, of these the first in time
        e.run(Edges.plain(4), "row(8,0,-1)=BAD set(8,-1,0)=BAD copy(0,-1,8,0,0)=BAD drop(8)=BAD who(4,0,0,-1,1)=BAD",
                "as(4,5)=BAD copy(0,-1,1,0,0)=NULL set(0,-1,0)=NULL back(0,-1)=NULL who(0,0,0,-1,1)=NULL");
    }

    private static void findings(Edges e) {
        e.terms("-1000010 less 1 NULL (a ROW that is missing), 2 PLACE (no such place of a ROW), 3 KIND (a "
                + "CORNER that is "
                + "not that), 4 SIZE (fewer than none), 5 STORE (ROWS of two LANES), 6 OVER (beyond the numbers of a "
                + "long).");
        e.run(FIVE, "drop(0)=-1000011 status()=1 row(0,0,1)=1 status()=0 set(0,1,1)=-1000012 status()=2",
                "as(0,2)=-1000013",
                "status()=3 row(0,0,-1)=-1000014 status()=4 row(1,1,1)=1 copy(0,0,1,0,1)=-1000015 status()=5");
        e.run("<t0;o9;o9;o9;o9;o9;o9;o9;o9;" + Edges.fan(6) + ">=9 frieze(8,20)=-1000016 status()=6");
    }

    private static void unchanged(Edges e) {
        e.terms("What is refused, or found, changes nothing but status().");
        // a script looks at this behind each call; here all there can be is there
        String all = FIVE + " image(0) become(4,1) number(3,7) image(1) turn(2) mirror() 0:[1,2,3] 5:[4] +p0;x"
                + " ask(1,0)";
        e.run(all, "row(0,0,41)=BAD row(0,0,-1)=SIZE set(0,3,9)=PLACE set(1,0,9)=NULL copy(0,0,5,0,2)=PLACE",
                "copy(0,0,1,0,1)=NULL drop(1)=NULL drop(8)=BAD feed(256)=BAD cut(0,1)=BAD join(5)=BAD flip(5)=BAD");
        e.run(all, "turn(5)=BAD become(0,1)=STATE become(0,6)=BAD number(0,10)=BAD lay(0)=PLACE lay(1)=NULL lay(8)=BAD",
                "corner(5,0)=BAD cutOf(5,0)=BAD frieze(0,21)=BAD whole(9)=BAD piece(5)=BAD back(0,0)=PLACE",
                "likes(2)=BAD");
        e.run(all, "flips(0)=PLACE sets(100,0)=BAD who(0,0,0,0,4)=PLACE who(0,0,1,0,1)=NULL lost(2,0,0)=BAD",
                "drawn(61,1,0)=BAD image(2)=BAD restore(2)=BAD kind(5)=BAD as(0,5)=KIND as(0,6)=BAD ask(0,2)=BAD");
        e.run(all, "ask(5,0)=BAD trace(16)=NONE count(6)=BAD status()=0 polygon()=F3 polygon()=F0");
        e.run("0:[1,2] +p0; row(1,3,1)=BAD turn(1)=BAD mirror()=STATE undo()=STATE whole(0)=STATE ways()=STATE",
                "image(0)=STATE",
                "restore(0)=STATE lay(0)=STATE back(0,0)=STATE flips(0)=STATE ask(0,0)=BAD polygon()=F3");
    }

    private static void kinds(Edges e) {
        e.terms("KINDS of CORNERS: 0 CORNER; 1 PLAIN, a CORNER; 2 TWOFOLD, a PLAIN one; 3 MINUS, a PLAIN one; 4 "
                + "FIXED, a "
                + "CORNER; 5 OPEN, a FIXED one. By this it is asked.");
        e.run(FIVE, "as(0,0)=0 as(0,1)=0 as(0,2)=KIND as(0,3)=KIND as(0,4)=KIND as(0,5)=KIND");
        e.run(FIVE, "as(1,0)=1 as(1,1)=1 as(1,2)=1 as(1,3)=KIND as(1,4)=KIND as(1,5)=KIND");
        e.run(FIVE, "as(2,0)=2 as(2,1)=2 as(2,2)=KIND as(2,3)=2 as(2,4)=KIND as(2,5)=KIND");
        e.run(FIVE, "as(3,0)=3 as(3,1)=KIND as(3,2)=KIND as(3,3)=KIND as(3,4)=3 as(3,5)=KIND");
        e.run(FIVE, "as(4,0)=4 as(4,1)=KIND as(4,2)=KIND as(4,3)=KIND as(4,4)=4 as(4,5)=4");
    }

    private static void kind(Edges e) {
        e.promise(33, "The KIND of a CORNER, as told (1 to 5).");
        e.run(FIVE, "kind(0)=1 kind(1)=2 kind(2)=3 kind(3)=4 kind(4)=5 become(0,5) kind(0)=5 become(4,1) kind(4)=1");
        e.promise(33, "BAD.");
        e.run("kind(0)=BAD", FIVE, "kind(-1)=BAD kind(5)=BAD kind(MIN)=BAD kind(MAX)=BAD kind(4)=5");
        e.run(NINE, "kind(8)=1 kind(9)=BAD");
    }

    private static void as(Edges e) {
        e.promise(34, "A CORNER is taken as one of a KIND (0 .. 5): the CORNER's number.");
        e.run(NINE, "as(8,0)=8 as(8,1)=8 become(8,5) as(8,5)=8 as(8,4)=8 as(8,0)=8");
        e.promise(34, "BAD;");
        e.run("as(0,0)=BAD as(0,6)=BAD", FIVE, "as(-1,0)=BAD as(5,0)=BAD as(MIN,0)=BAD as(MAX,0)=BAD",
                "as(0,-1)=BAD as(0,6)=BAD",
                "as(0,MIN)=BAD as(0,MAX)=BAD status()=0");
        e.promise(34, "KIND: it is no such one.");
        e.run(FIVE, "as(0,5)=KIND status()=3 as(0,6)=BAD as(5,5)=BAD status()=3 as(4,5)=4 status()=0 as(4,1)=KIND");
    }

    /** An ask, what it answers, and all that it leaves in the trace. */
    private static String asked(int one, int what, int due, int... bodies) {
        StringBuilder calls = new StringBuilder("ask(" + one + "," + what + ")=" + due);
        for (int i = 0; i < bodies.length; i++) {
            calls.append(" trace(").append(i).append(")=").append(bodies[i]);
        }
        return calls + " trace(" + bodies.length + ")=NONE";
    }

    private static void sizes(Edges e) {
        e.terms("4 ASKS of CORNERS, by BODIES, each of which leaves its number in THE TRACE as it begins (the "
                + "first 16): 0 "
                + "SIZE: 10 lent to all CORNERS: COUNT. 11 of PLAIN ones: what 10 gives, and MARK.");
        e.run(FIVE, asked(0, 0, 3, 11, 10, 21, 20));
        e.run(NINE, asked(8, 0, 21, 11, 10, 21, 20), asked(0, 0, 1, 11, 10, 21, 20));
        e.terms("12 of TWOFOLD ones: 0 less what 11 gives.");
        e.run(FIVE, asked(1, 0, -4, 12, 11, 10, 24, 21, 20));
        e.run(NINE, "become(8,2)", asked(8, 0, -42, 12, 11, 10, 24, 21, 20));
        e.terms("13 of FIXED ones: what 10 gives, less 100.");
        e.run(FIVE, asked(3, 0, -97, 13, 10), "number(3,0)", asked(3, 0, -100, 13, 10), "number(3,9)",
                asked(3, 0, -91, 13, 10));
        e.terms("14 of OPEN ones: twice what 13 gives (asked once).");
        e.run(FIVE, asked(4, 0, -192, 14, 13, 10), "number(4,0)", asked(4, 0, -198, 14, 13, 10), "number(4,9)",
                asked(4, 0, -180, 14, 13, 10));
    }

    private static void marks(Edges e) {
        e.terms("1 MARK: 20 lent to all CORNERS: the number. 21 of PLAIN ones: what 20 gives, and how many CUTS "
                + "it has.");
        e.run(FIVE, asked(0, 1, 1, 21, 20), "number(0,9)", asked(0, 1, 1, 21, 20));
        e.run(NINE, asked(8, 1, 14, 21, 20), asked(0, 1, 0, 21, 20));
        e.terms("22 of MINUS ones: what 21 gives, less 1000.");
        e.run(FIVE, asked(2, 1, -996, 22, 21, 20), asked(2, 0, -999, 11, 10, 22, 21, 20));
        e.run(NINE, "become(8,3)", asked(8, 1, -986, 22, 21, 20), asked(8, 0, -993, 11, 10, 22, 21, 20));
        e.terms("23 of FIXED ones: what 20 gives, less SIZE.");
        e.run(FIVE, asked(3, 1, 100, 23, 20, 13, 10));
        e.terms("24 of TWOFOLD ones: twice what 21 gives (asked once).");
        e.run(FIVE, asked(1, 1, 2, 24, 21, 20));
        e.run(NINE, "become(8,2)", asked(8, 1, 28, 24, 21, 20));
    }

    private static void nearest(Edges e) {
        e.terms("(Of an ask the BODY told for the KIND begins, else that of the nearest KIND that it is, too, "
                + "else the one "
                + "that is lent; SIZE, MARK within others are asked of the same CORNER anew.)");
        // a minus has no size of its own but a mark, an open one no mark but a size
        e.run(FIVE, asked(2, 0, -999, 11, 10, 22, 21, 20), asked(4, 1, 196, 23, 20, 14, 13, 10));
        e.run(NINE, "become(8,5) number(8,9)", asked(8, 1, 188, 23, 20, 14, 13, 10), "become(8,4)",
                asked(8, 1, 8 - 9 + 100, 23, 20, 13, 10));
    }

    private static void ask(Edges e) {
        e.promise(35, "An ASK (0, 1) of a CORNER.");
        e.run(FIVE, "ask(0,0)=3 ask(0,1)=1 ask(4,0)=-192 ask(4,1)=196");
        e.promise(35, "BAD.");
        e.run("ask(0,0)=BAD", FIVE, "ask(-1,0)=BAD ask(5,0)=BAD ask(MIN,0)=BAD ask(MAX,0)=BAD ask(0,-1)=BAD",
                "ask(0,2)=BAD",
                "ask(0,MIN)=BAD ask(0,MAX)=BAD trace(0)=NONE");
        e.promise(35, "THE TRACE is empty ahead of it (where that is refused it stays).");
        // a short one behind a long one
        e.run(FIVE, asked(1, 0, -4, 12, 11, 10, 24, 21, 20), asked(3, 0, -97, 13, 10), "trace(3)=NONE trace(5)=NONE");
        e.run(FIVE, "ask(3,0)=-97 ask(5,0)=BAD ask(0,2)=BAD trace(0)=13 trace(1)=10 trace(2)=NONE");
        // nor does another call empty it
        e.run(FIVE, "ask(3,0)=-97 as(0,5)=KIND turn(1) image(0) restore(0) <p>=F1", FIVE, "trace(0)=13 trace(1)=10");
    }

    private static void trace(Edges e) {
        e.promise(36, "Number i of THE TRACE; NONE.");
        e.run("trace(0)=NONE trace(-1)=NONE trace(15)=NONE trace(16)=NONE trace(MIN)=NONE trace(MAX)=NONE");
        e.run(FIVE, "trace(0)=NONE ask(1,0)=-4 trace(0)=12 trace(5)=20 trace(6)=NONE trace(-1)=NONE trace(15)=NONE",
                "trace(16)=NONE trace(17)=NONE trace(MIN)=NONE trace(MAX)=NONE");
    }

    private static void count(Edges e) {
        e.promise(37, "How many: 0 ROWS, 1 CORNERS, 2 CUTS, 3 COUNTS of all CORNERS, together, 4 ACTS that can "
                + "be undone, 5 "
                + "bytes on the tape.");
        // nothing, and as much as can be
        e.run("count(0)=0 count(1)=0 count(2)=0 count(3)=0 count(4)=0 count(5)=0");
        e.run("row(0,0,0) row(1,0,0) row(2,0,0) row(3,0,0) row(4,0,0) row(5,0,0) row(6,0,0) count(0)=7 row(7,0,0)",
                "count(0)=8 drop(3) count(0)=7");
        e.run("<t0;o9;o9;o9;o9;o9;o9;o9;o9;" + Edges.fan(6) + ">=9 count(1)=9 count(2)=6 count(3)=94");
        e.run("<m0;m0;m0;m0;m0;m0;m0;m0;m0;" + Edges.fan(6) + ">=9 count(3)=-21 join(0) count(3)=-19 count(2)=5");
        e.run("<f0;f0;f0;f0;>=4 count(1)=4 count(2)=0 count(3)=0");
        e.run(FIVE, "count(3)=8", " number(3,3)".repeat(23), "count(4)=23 mirror() count(4)=24 mirror() count(4)=24",
                "undo() count(4)=23");
        e.run("+" + "p".repeat(119), "count(5)=119 feed(0)=120 count(5)=120 feed(0)=FULL count(5)=120 polygon()=F1",
                "count(5)=0");
    }

    private static void countRefused(Edges e) {
        e.promise(37, "BAD.");
        e.run("count(-1)=BAD count(6)=BAD count(MIN)=BAD count(MAX)=BAD", FIVE, "count(-1)=BAD count(6)=BAD",
                "count(5)=0");
    }

    private static void status(Edges e) {
        e.promise(38, "Of the latest call with a ROW, as(), or that may answer OVER, that was not BAD, STATE, "
                + "FULL: the "
                + "number of its FINDING;");
        e.run(FIVE, "as(0,5)=KIND status()=3 drop(0)=NULL status()=1 row(0,0,-1)=SIZE status()=4 as(0,4)=KIND",
                "status()=3",
                "status()=3");
        // what is BAD, STATE, FULL stays out of it
        e.run("row(0,0,-1)=SIZE row(8,0,0)=BAD set(8,0,0)=BAD copy(8,0,0,0,0)=BAD drop(8)=BAD lay(8)=STATE",
                "back(8,0)=STATE",
                "flips(0)=STATE who(0,0,0,0,1)=BAD as(0,0)=BAD frieze(0,0)=BAD status()=4");
        e.run("row(0,0,-1)=SIZE +" + "p".repeat(120), "feed(0)=FULL status()=4");
        // and so do the calls that are not told of
        e.run(FIVE, "as(0,5)=KIND 0:[1] as(0,5)=KIND whole(3) whole(5) count(0) ask(0,0) kind(0) ways()",
                "likes(0) sets(0,0)",
                "lost(3,3,0) drawn(1,1,0) mirror() turn(1) cut(0,2) join(0) number(0,0) become(0,2) undo() image(0)",
                "restore(0) piece(0) corner(0,0) cutOf(0,0) trace(0) fault() feed(0) polygon() flip(0) status()=3");
        e.promise(38, "0: it had none, or there was none.");
        e.run("status()=0 feed(256)=BAD row(8,0,0)=BAD lay(0)=STATE status()=0");
    }

    /** Each call that tells a status tells 0, if all is well: also if it answers NONE. */
    private static void statusByCall(Edges e) {
        String before = Edges.plain(4, "d0,2;") + " 0:[2,1,2,1] 1:[9,9,9,9] as(0,5)=KIND ";
        e.run(before, "row(2,0,0)=0 status()=0");
        e.run(before, "set(1,0,7)=7 status()=0");
        e.run(before, "copy(0,0,1,0,4)=4 status()=0");
        e.run(before, "drop(1)=4 status()=0");
        e.run(before, "lay(0)={0} status()=0");
        e.run(before, "lay(1)=NONE status()=0");
        e.run(before, "back(0,0)={0} status()=0");
        e.run(before, "back(1,0)=NONE status()=0");
        e.run(before, "flips(0)=0 status()=0");
        e.run(before, "flips(1)=NONE status()=0");
        e.run(before, "who(0,0,0,0,4)={1} status()=0");
        e.run(before, "who(0,1,1,0,4)=0 status()=0");
        e.run(before, "who(0,2,0,0,1)=0 status()=0");
        e.run(before, "as(0,1)=0 status()=0");
        e.run(before, "frieze(0,0)=0 status()=0");
    }

    /** The document's first part: 'An object is used for at most 512 calls after it has been made'. */
    private static void life(Edges e) {
        FriezePolygons x = new FriezePolygons();
        int calls = 13;
        Due.read(x, "p0;p0;p0;p0;");
        int last = 0;
        for (; calls < 510; calls++) {
            e.is("number(2, " + calls % 10 + ") as call " + calls, x.number(2, calls % 10), last);
            last = calls % 10;
        }
        e.is("undo() as call 511", x.undo(), 23);
        e.is("corner(2, 1) as call 512", x.corner(2, 1), 8);
    }
}
