/** The edges of promises 24 to 32 and of what the terms say of what is foretold. */
final class ForetoldEdges {
    private static final String FAN = Edges.plain(6, "d0,2;d0,3;d0,4;"), FAN_OF_FIVE = Edges.plain(5, "d0,2;d0,3;");

    private ForetoldEdges() {
    }

    static void all(Edges e) {
        ways(e);
        likes(e);
        flips(e);
        flipsRefused(e);
        sets(e);
        setsRefused(e);
        whoKinds(e);
        whoNumbers(e);
        whoCuts(e);
        whoRefused(e);
        lost(e);
        lostRefused(e);
        drawn(e);
        drawnRefused(e);
        image(e);
        restore(e);
    }

    private static void ways(Edges e) {
        e.terms("3 FORETOLD (nothing changes). WAYS: in how many ways all PIECES can be cut into triangles (of "
                + "m CORNERS "
                + "1, 1, 2, 5, 14, 42, 132, 429 ways, m 2 to 9), times one another.");
        int[] bare = {2, 5, 14, 42, 132, 429};
        for (int n = 4; n <= 9; n++) {
            e.run(Edges.plain(n), "ways()=" + bare[n - 4]);
            e.run(Edges.plain(n, Edges.fan(n - 3)), "ways()=1");
        }
        e.run(Edges.plain(9, "d0,2;"), "ways()=132");
        e.run(Edges.plain(9, "d1,8;"), "ways()=132");
        e.run(Edges.plain(9, "d0,3;"), "ways()=84");
        e.run(Edges.plain(9, "d0,4;"), "ways()=70");
        e.run(Edges.plain(9, "d0,3;d3,6;d0,6;"), "ways()=8");
        e.promise(24, "WAYS.");
        e.run(Edges.plain(4), "ways()=2 cut(0,2) ways()=1 flip(0) ways()=1");
        e.promise(24, "STATE: no POLYGON.");
        e.run("ways()=STATE <p>=F1 ways()=STATE");
    }

    private static void likes(Edges e) {
        e.terms("LEAST: the least bits that CUTS can have as they are, TURNED by any r, MIRRORED, MIRRORED and "
                + "TURNED by "
                + "any r; LIKES: how many unlike ones there are of these.");
        e.run(Edges.plain(6), "likes(0)=0 likes(1)=1");
        e.run(Edges.plain(4, "d0,2;"), "likes(0)={0} likes(1)=2 flip(0) likes(0)={0} likes(1)=2");
        e.run(FAN, "likes(0)={0,1,2} likes(1)=6 turn(5) likes(0)={0,1,2} likes(1)=6");
        // turned alone it comes to 28 at least; mirrored alone to 385; mirrored and turned to 14
        e.run(Edges.plain(6, "d0,2;d0,3;d3,5;"), "likes(0)={1,2,3} likes(1)=6 mirror()=385 likes(0)={1,2,3}");
        e.run(Edges.plain(6, "d1,3;d3,5;d1,5;"), "likes(0)={0,2,6} likes(1)=2");
        e.run(Edges.plain(6, "d1,4;"), "likes(0)={1} likes(1)=3");
        // by the last turn alone; as it is
        e.run(Edges.plain(5, "d1,3;"), "likes(0)={0} likes(1)=5");
        e.run(Edges.plain(9, "d1,3;"), "likes(0)={0} likes(1)=9");
        e.run(Edges.plain(9, "d0,2;"), "likes(0)={0}");
        // as many as there can be: twice as many as corners
        e.run(Edges.plain(7, "d0,2;d0,3;d3,6;d3,5;"), "likes(1)=14");
        e.run(Edges.plain(9, "d0,2;d2,4;d4,6;d6,8;d2,8;d2,6;"), "likes(0)=2101301 likes(1)=18");
        e.promise(25, "LEAST (what = 0; bits), LIKES (1).");
        e.run(Edges.plain(4), "likes(0)=0 likes(1)=1 cut(1,3) likes(0)=1 likes(1)=2");
        e.promise(25, "BAD;");
        e.run(Edges.plain(4), "likes(-1)=BAD likes(2)=BAD likes(MIN)=BAD likes(MAX)=BAD");
        e.promise(25, "STATE: no POLYGON (ahead of BAD).");
        e.run("likes(0)=STATE likes(1)=STATE likes(-1)=STATE likes(2)=STATE likes(MAX)=STATE");
    }

    private static void flips(Edges e) {
        e.terms("FLIPS to a row: the fewest by which CUTS come to those READ BACK from it, both TRIANGLED; "
                + "NONE: there are "
                + "none such.");
        // none, and as many as two cuttings of so many corners can be apart
        e.run(Edges.plain(4, "d1,3;"), "0:[1,2,1,2] flips(0)=0 0:[2,1,2,1] flips(0)=1");
        e.run(Edges.plain(5, "d1,4;d2,4;"), "0:[1,2,2,1,3] flips(0)=0 0:[2,2,1,3,1] flips(0)=2");
        e.run(Edges.plain(6, "d1,5;d2,4;d2,5;"), "0:[3,2,1,3,2,1] flips(0)=4");
        e.run(Edges.plain(7, "d1,6;d2,6;d3,5;d3,6;"), "0:[4,1,3,1,3,2,1] flips(0)=5");
        e.run(Edges.plain(8, "d1,7;d2,7;d3,6;d3,7;d4,6;"), "0:[3,2,3,1,2,4,2,1] flips(0)=7");
        e.run(Edges.plain(9, "d1,8;d2,8;d3,7;d3,8;d4,6;d4,7;"), "0:[4,2,3,1,2,4,2,2,1] flips(0)=9");
        // one call does not tell on the next
        e.run(FAN_OF_FIVE, "0:[3,1,2,2,1] flips(0)=0 flip(0) flips(0)=1 flip(1) flips(0)=2 flip(2) flips(0)=2 flip(3)",
                "flips(0)=1 flip(4) flips(0)=0");
        e.run(Edges.plain(9, "d1,8;d2,8;d3,7;d3,8;d4,6;d4,7;"), "0:[4,2,3,1,2,4,2,2,1] flips(0)=9 flips(0)=9",
                "flips(0)=9",
                "lay(0) flips(0)=0 undo()=0 flips(0)=9");
        // not triangled: one cut less than there can be, none at all; a row that can't be read back
        e.run(Edges.plain(6, "d0,2;d0,3;"), "0:[4,1,2,2,2,1] flips(0)=NONE cut(0,4) flips(0)=0");
        e.run(Edges.plain(4), "0:[2,1,2,1] flips(0)=NONE cut(1,3) flips(0)=1");
        e.run(FAN_OF_FIVE, "0:[2,2,2,2,2] flips(0)=NONE 0:[3,1,2,2,2] flips(0)=NONE 0:[3,1,2,2,1] flips(0)=0");
        e.promise(26, "FLIPS; NONE.");
        // the first five items alone are read
        e.run(FAN_OF_FIVE, "7:[1,3,1,2,2,9] flips(7)=2 7:[2,2,2,2,2] flips(7)=NONE status()=0 count(4)=0");
    }

    private static void flipsRefused(Edges e) {
        e.promise(26, "BAD: ROW;");
        e.run(FAN_OF_FIVE, "flips(-1)=BAD flips(8)=BAD flips(MIN)=BAD flips(MAX)=BAD");
        e.promise(26, "STATE: no POLYGON (ahead of BAD);");
        e.run("flips(-1)=STATE flips(8)=STATE flips(0)=STATE 0:[1,2,1,2] flips(0)=STATE");
        e.promise(26, "NULL;");
        e.run(FAN_OF_FIVE, "flips(0)=NULL flips(7)=NULL", Edges.plain(5), "flips(0)=NULL");
        e.promise(26, "PLACE.");
        e.run(FAN_OF_FIVE, "0:[3,1,2,2] flips(0)=PLACE row(0,0,0) flips(0)=PLACE", Edges.plain(6), "0:[3,1,2,2,1]",
                "flips(0)=PLACE 0:[3,1,2,2,1,1] flips(0)=NONE");
    }

    private static void sets(Edges e) {
        e.terms("SETS of v (-99 to 99): sets of CORNERS (that of none, too: 0) of COUNT v together: how many; CORNERS "
                + "(bits) that are in all of these (none: 0); in any.");
        e.run("<f5;f2;f3;m0;>=4 sets(5,0)=2 sets(5,1)=0 sets(5,2)={0,1,2} sets(4,0)=2 sets(4,1)={3}",
                "sets(4,2)={0,1,2,3}");
        // the set of none alone; all sets; no set
        e.run("<f5;f2;f3;f9;>=4 sets(0,0)=1 sets(0,1)=0 sets(0,2)=0 sets(1,0)=0 sets(1,1)=0 sets(1,2)=0 sets(19,0)=1");
        e.run("<f0;f0;f0;f0;f0;f0;f0;f0;f0;>=9 sets(0,0)=512 sets(0,1)=0 sets(0,2)=511 sets(1,0)=0 sets(-1,0)=0");
        // the most and the least that corners can count together
        e.run("<t0;o9;o9;o9;o9;o9;o9;o9;o9;" + Edges.fan(6) + ">=9 sets(94,0)=1 sets(94,1)=511 sets(94,2)=511",
                "sets(95,0)=0 sets(99,0)=0 sets(99,1)=0 sets(99,2)=0 sets(80,0)=1 sets(80,1)=510 sets(84,0)=8");
        e.run("<m0;m0;m0;m0;m0;m0;m0;m0;m0;" + Edges.fan(6) + ">=9 sets(-21,0)=1 sets(-21,1)=511 sets(-22,0)=0",
                "sets(-99,0)=0 sets(-99,1)=0 sets(-99,2)=0 sets(-20,0)=2 sets(-20,1)={0,2,3,4,5,6,7} sets(-20,2)=511");
        e.promise(27, "SETS: how many (what = 0), in all (1), in any (2).");
        e.run("<f1;f2;f4;f8;>=4 sets(15,0)=1 sets(15,1)=15 sets(15,2)=15 sets(10,1)={1,3} sets(16,0)=0");
    }

    private static void setsRefused(Edges e) {
        e.promise(27, "BAD;");
        e.run(Edges.plain(4), "sets(-100,0)=BAD sets(100,0)=BAD sets(MIN,0)=BAD sets(MAX,0)=BAD sets(0,-1)=BAD",
                "sets(0,3)=BAD sets(0,MIN)=BAD sets(0,MAX)=BAD sets(-99,2)=0 sets(99,2)=0 sets(99,3)=BAD",
                "sets(-100,2)=BAD");
        e.promise(27, "STATE: no POLYGON (ahead of BAD).");
        e.run("sets(0,0)=STATE sets(100,0)=STATE sets(-100,0)=STATE sets(0,3)=STATE sets(0,-1)=STATE");
    }

    private static void whoKinds(Edges e) {
        e.terms("A row tells COUNTS of CORNERS 0, 1, .. (m of them): KINDS (bits 1 to 5) of a CORNER by which "
                + "it is so;");
        String square = "<p2;p0;p0;p0;>=4";
        e.run(square, "0:[1,1,1,1] who(0,0,0,0,4)={1} 0:[2,1,1,1] who(0,0,0,0,4)={2,4} 0:[-1,1,1,1] who(0,0,0,0,4)={3}",
                "0:[3,1,1,1] who(0,0,0,0,4)={5} 0:[4,1,1,1] who(0,0,0,0,4)=0");
        // as many as are told, and no more
        e.run(square, "0:[2,1,1,9] who(0,0,0,0,4)=0 who(0,0,0,0,3)={2,4} who(0,0,0,0,1)={2,4} who(3,0,0,0,4)=0");
        // of a corner that is not told of all kinds will do, if the rest is so
        e.run(square, "0:[1] who(3,0,0,0,1)={1,2,3,4,5} who(3,1,0,0,1)=1023 0:[2] who(3,0,0,0,1)=0 who(3,1,0,0,1)=0");
        // 1 to CORNERS, from i on
        e.run(Edges.plain(9), "0:[9,1,1,1,1,1,1,1,1,1] who(8,0,0,1,9)={1,5} who(8,0,0,0,9)=0",
                "who(8,0,0,2,8)={1,2,3,4,5}");
    }

    private static void whoNumbers(Edges e) {
        e.terms("K (bits 0 to 9) of it;");
        e.run("<f5;p5;p0;p0;>=4 0:[0,9,10,-1,5] who(0,1,0,0,1)={0} who(0,1,0,1,1)={9} who(0,1,0,2,1)=0",
                "who(0,1,0,3,1)=0",
                "who(0,1,0,4,1)={5}");
        e.run("<o5;p5;p0;p0;>=4 0:[0,1,10,11] who(0,1,0,0,1)=0 who(0,1,0,1,1)={0} who(0,1,0,2,1)={9} who(0,1,0,3,1)=0");
        // to others K does not matter
        e.run("<p5;t5;m5;p0;>=4 0:[1,2,-1,1] who(0,1,0,0,4)=1023 who(1,1,0,0,4)=1023 who(2,1,0,0,4)=1023 0:[5]",
                "who(0,1,0,0,1)=0");
        e.promise(28, "KINDS (which = 0), K (1) of a CORNER, CUTS more (2), m ITEMS (1 to CORNERS) of a ROW "
                + "from i on.");
        e.run("<f5;p0;p0;p0;>=4 0:[9,5,1,1,1] who(0,0,0,1,4)={4} who(0,1,0,1,4)={5} who(0,2,0,1,1)={0,1} count(4)=0");
        e.run("<f5;p0;p0;p0;>=4 row(0,0,40) set(0,39,7) who(0,1,0,39,1)={7} who(0,1,0,38,1)={0} who(0,1,0,39,2)=PLACE");
    }

    private static void whoCuts(Edges e) {
        e.terms("CUTS that could be made more (bits) by which it is so.");
        e.run(Edges.plain(4), "0:[2,1,2,1] who(0,2,0,0,4)={0} who(3,2,0,0,1)={0} 0:[1,1,1,1] who(0,2,0,0,1)={1}",
                "who(0,2,0,0,2)=0 who(0,2,0,0,4)=0");
        // it is so already, but no cut could be made more
        e.run(Edges.plain(4, "d0,2;"), "0:[2,1,2,1] who(0,2,0,0,4)=0 who(0,2,0,0,1)=0");
        // neither one that is there nor one that crosses
        e.run(Edges.plain(6, "d1,4;"), "0:[1,2] who(0,2,0,0,1)={3,5,6} who(0,2,0,1,1)={2} 0:[1,2,1]",
                "who(0,2,0,0,2)={6}");
        e.run(Edges.plain(9), "0:[1,1,1,1,1,1,2,1,2] who(0,2,0,0,9)={26} 0:[2,1,2] who(8,2,0,0,3)={0}");
    }

    private static void whoRefused(Edges e) {
        e.promise(28, "BAD: CORNER (always), which, ROW, m;");
        e.run("who(0,0,0,0,1)=BAD 0:[1] who(0,2,0,0,1)=BAD who(0,0,0,0,0)=BAD");
        for (int which = 0; which <= 2; which++) {
            e.run(Edges.plain(4), "0:[1,1,1,1] who(-1,W,0,0,1)=BAD who(4,W,0,0,1)=BAD".replace("W", "" + which),
                    "who(MIN,W,0,0,1)=BAD who(MAX,W,0,0,1)=BAD who(3,W,0,0,1)".replace("W", "" + which));
        }
        e.run(Edges.plain(4), "0:[1,1,1,1,1] who(0,-1,0,0,1)=BAD who(0,3,0,0,1)=BAD who(0,MIN,0,0,1)=BAD",
                "who(0,MAX,0,0,1)=BAD who(0,0,-1,0,1)=BAD who(0,0,8,0,1)=BAD who(0,0,MIN,0,1)=BAD who(0,0,MAX,0,1)=BAD",
                "who(0,0,0,0,0)=BAD who(0,0,0,0,5)=BAD who(0,0,0,0,-1)=BAD who(0,0,0,0,MIN)=BAD who(0,0,0,0,MAX)=BAD");
        e.promise(28, "NULL;");
        e.run(Edges.plain(4), "who(0,0,0,0,1)=NULL who(3,2,7,0,4)=NULL status()=1");
        e.promise(28, "PLACE.");
        e.run(Edges.plain(4), "0:[1,1,1,1,1] who(0,0,0,1,4)={1,5} who(0,0,0,2,4)=PLACE who(0,0,0,4,1)={1,5}",
                "who(0,0,0,5,1)=PLACE who(0,0,0,-1,1)=PLACE who(0,0,0,MIN,1)=PLACE who(0,0,0,MAX,4)=PLACE",
                "row(1,0,0) who(0,0,1,0,1)=PLACE");
        e.promise(28, "BAD: CORNER (always), which, ROW, m; NULL; PLACE.");
        e.run(Edges.plain(4), "0:[1] who(4,0,7,-1,1)=BAD who(0,3,7,-1,1)=BAD who(0,0,8,-1,1)=BAD who(0,0,7,-1,5)=BAD",
                "who(0,0,7,-1,0)=BAD who(0,0,7,-1,1)=NULL who(0,0,7,MAX,4)=NULL who(4,0,0,-1,1)=BAD",
                "who(0,0,0,-1,5)=BAD");
    }

    /** A fraction by a call with what = 0 and one with 1. */
    private static String fraction(int v, int p, long above, long below) {
        return "lost(V,P,0)=A lost(V,P,1)=B ".replace("V", "" + v).replace("P", "" + p).replace("A", "" + above)
                .replace("B", "" + below);
    }

    private static void lost(Edges e) {
        e.terms("LOST by p of 10 (0 to 10): each CUT is lost in p of 10 cases, apart: how likely no PIECE has "
                + "more than v "
                + "CORNERS (3 to 9): a fraction.");
        // each is kept, or each is lost
        e.run(Edges.plain(5, "d0,2;"), fraction(3, 0, 0, 1), fraction(4, 0, 1, 1), fraction(4, 10, 0, 1),
                fraction(5, 10, 1, 1));
        e.run(Edges.plain(9, Edges.fan(6)), fraction(3, 0, 1, 1), fraction(3, 10, 0, 1), fraction(8, 10, 0, 1),
                fraction(9, 10, 1, 1), fraction(9, 5, 1, 1));
        e.run(Edges.plain(9, Edges.fan(6)), fraction(3, 1, 531441, 1000000), fraction(3, 9, 1, 1000000),
                fraction(8, 9, 468559, 1000000), fraction(8, 1, 999999, 1000000));
        e.run(Edges.plain(6, "d0,2;d2,4;d0,4;"), fraction(4, 2, 112, 125), fraction(5, 2, 124, 125));
        e.terms("All that is divided is cut towards 0, but fractions, told as two numbers in lowest terms (0 is "
                + "0 by 1).");
        e.run(Edges.plain(9, Edges.fan(6)), fraction(3, 5, 1, 64), fraction(8, 5, 63, 64), fraction(3, 2, 4096, 15625),
                fraction(4, 10, 0, 1));
        e.run(Edges.plain(4), fraction(3, 5, 0, 1), fraction(3, 0, 0, 1), fraction(4, 5, 1, 1), fraction(4, 10, 1, 1));
        e.promise(29, "LOST: above (what = 0), below (1).");
        e.run(Edges.plain(4, "d0,2;"), fraction(3, 4, 3, 5), fraction(3, 5, 1, 2), fraction(4, 4, 1, 1));
    }

    private static void lostRefused(Edges e) {
        e.promise(29, "BAD;");
        e.run(Edges.plain(4), "lost(2,5,0)=BAD lost(10,5,0)=BAD lost(MIN,5,0)=BAD lost(MAX,5,0)=BAD lost(3,-1,0)=BAD",
                "lost(3,11,0)=BAD lost(3,MIN,0)=BAD lost(3,MAX,0)=BAD lost(3,5,-1)=BAD lost(3,5,2)=BAD",
                "lost(3,5,MIN)=BAD",
                "lost(3,5,MAX)=BAD lost(9,10,1)=1 lost(9,10,2)=BAD");
        e.promise(29, "STATE: no POLYGON (ahead of BAD).");
        e.run("lost(3,5,0)=STATE lost(2,5,0)=STATE lost(10,5,0)=STATE lost(3,11,0)=STATE lost(3,5,2)=STATE");
    }

    /** What years of a seed come to: how often a cut could be flipped, and the cuts at last. */
    private static String years(int n, int seed, int often, String cuts) {
        return "drawn(N,S,0)=O drawn(N,S,1)=C ".replace("N", "" + n).replace("S", "" + seed).replace("O", "" + often)
                .replace("C", cuts);
    }

    private static void drawn(Edges e) {
        e.terms("YEARS of n times (0 to 60) by a SEED (X at first): ahead of each X becomes the rest of (X "
                + "times 16807) by "
                + "2147483647; of the CUTS there are (if there are any) the one that the rest of X by how many "
                + "there are "
                + "tells, rising, is FLIPPED, if that can be: how often it could; bits of the CUTS at last.");
        e.run(Edges.plain(4, "d0,2;"), years(0, 1, 0, "{0}"), years(1, 1, 1, "{1}"), years(59, 1, 59, "{1}"),
                years(60, 1, 60, "{0}"), "whole(1)={0} count(4)=0");
        // without cuts
        e.run(Edges.plain(4), years(0, 1, 0, "0"), years(60, 999999, 0, "0"));
        // X is 16807, 282475249, 1622650073, 984943658, 1144108930, 470211272, 101027544, 1457850878, 1458777923, ..
        e.run(FAN_OF_FIVE, years(1, 1, 1, "{0,4}"), years(2, 1, 2, "{0,1}"), years(3, 1, 3, "{0,4}"),
                years(4, 1, 4, "{3,4}"), years(8, 1, 8, "{3,4}"), years(9, 1, 9, "{2,3}"), years(10, 1, 10, "{1,2}"));
        e.run(FAN, years(1, 1, 1, "{0,2,6}"), years(2, 1, 2, "{0,6,7}"), years(3, 1, 3, "{0,2,6}"),
                years(4, 1, 4, "{0,1,2}"));
        // the second of these cuts can't be flipped
        e.run(Edges.plain(6, "d0,2;d0,3;"), years(3, 1, 0, "{0,1}"), years(4, 1, 1, "{1,3}"), years(8, 1, 1, "{1,3}"),
                years(9, 1, 2, "{0,1}"), years(10, 1, 2, "{0,1}"));
        e.run(Edges.plain(6, "d0,3;"), years(60, 1, 0, "{1}"));
        e.promise(30, "YEARS by a SEED (1 to 999999): how often (what = 0), bits (1).");
        // 999999 times 16807 has the rest 1774597664, which is even
        e.run(FAN_OF_FIVE, years(1, 999999, 1, "{1,2}"), years(0, 999999, 0, "{0,1}"), years(1, 1, 1, "{0,4}"));
    }

    private static void drawnRefused(Edges e) {
        e.promise(30, "BAD;");
        e.run(FAN_OF_FIVE, "drawn(-1,1,0)=BAD drawn(61,1,0)=BAD drawn(MIN,1,0)=BAD drawn(MAX,1,0)=BAD drawn(1,0,0)=BAD",
                "drawn(1,1000000,0)=BAD drawn(1,-1,0)=BAD drawn(1,MIN,0)=BAD drawn(1,MAX,0)=BAD drawn(1,1,-1)=BAD",
                "drawn(1,1,2)=BAD drawn(1,1,MIN)=BAD drawn(1,1,MAX)=BAD drawn(0,0,0)=BAD drawn(60,999999,0)=60");
        e.promise(30, "STATE: no POLYGON (ahead of BAD).");
        e.run("drawn(0,1,0)=STATE drawn(61,1,0)=STATE drawn(-1,1,0)=STATE drawn(1,0,0)=STATE drawn(1,1,2)=STATE");
    }

    private static void image(Edges e) {
        e.promise(31, "An IMAGE (0, 1) is kept of the POLYGON: 1.");
        e.run("<p1;t2;m3;f4;o5;d0,2;>=5 image(0)=1 turn(1) become(0,5) number(1,9) image(1)=1 count(4)=3",
                "restore(0)=1 whole(1)={0} kind(0)=1 corner(1,1)=2 restore(1)=1 whole(1)={2} kind(0)=5 corner(1,1)=9");
        // in place of the one before
        e.run(Edges.plain(4, "d0,2;"), "image(0)=1 flip(0) image(0)=1 flip(1) restore(0)=1 whole(1)={1}");
        e.promise(31, "BAD;");
        e.run(Edges.plain(4), "image(-1)=BAD image(2)=BAD image(MIN)=BAD image(MAX)=BAD");
        e.promise(31, "STATE: no POLYGON.");
        e.run("image(0)=STATE image(1)=STATE <p>=F1 image(0)=STATE");
        e.promise(31, "BAD; STATE: no POLYGON.");
        e.run("image(-1)=BAD image(2)=BAD image(0)=STATE restore(0)=STATE");
    }

    private static void restore(Edges e) {
        e.promise(32, "The POLYGON is as an IMAGE kept it (no ACT can be undone then): 1.");
        e.run(Edges.plain(9, "d0,7;"), "image(1)=1", Edges.plain(4, "d0,2;"), "turn(1) number(3,9) count(4)=2",
                "restore(1)=1 count(1)=9 whole(1)={5} whole(8)=27 kind(8)=1 count(4)=0 undo()=STATE");
        // what is done later does not change the image
        e.run(Edges.plain(4, "d0,2;"), "image(0) restore(0)=1 flip(0) number(0,7) become(1,5) restore(0)=1",
                "whole(1)={0}",
                "corner(0,1)=0 kind(1)=1");
        // acts ahead of the image can't be undone either, nor do images restore one another
        e.run(Edges.plain(4), "cut(0,2) image(0) restore(0)=1 undo()=STATE join(0) image(1) restore(0)=1 whole(1)={0}",
                "restore(1)=1 whole(1)=0 restore(0)=1 whole(1)={0}");
        e.promise(32, "BAD;");
        e.run(Edges.plain(4), "image(0) image(1) restore(-1)=BAD restore(2)=BAD restore(MIN)=BAD restore(MAX)=BAD");
        e.promise(32, "STATE: none was kept.");
        e.run("restore(0)=STATE restore(1)=STATE", Edges.plain(4), "restore(0)=STATE image(1) restore(0)=STATE",
                "restore(1)=1");
        e.promise(32, "BAD; STATE: none was kept.");
        e.run("restore(-1)=BAD restore(2)=BAD restore(0)=STATE");
    }
}
