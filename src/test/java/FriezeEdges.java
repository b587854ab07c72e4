/** The edges of promises 18 to 23 and of what the terms say of cuts, counts, friezes and of reading back. */
final class FriezeEdges {
    private FriezeEdges() {
    }

    static void all(Edges e) {
        numbersOfCuts(e);
        pieces(e);
        counts(e);
        corner(e);
        cutOf(e);
        frieze(e);
        friezeBeyond(e);
        whole(e);
        closes(e);
        period(e);
        noughts(e);
        triangled(e);
        piece(e);
        readBack(e);
        readBackNone(e);
        back(e);
    }

    private static void numbersOfCuts(Edges e) {
        e.terms("2 CUTS are told by their numbers: all that can be, by A, then B, are 0, 1, .. (with n CORNERS n times "
                + "(n less 3) by 2 of them).");
        int[] due = {2, 5, 9, 14, 20, 27};
        for (int n = 4; n <= 9; n++) {
            StringBuilder calls = new StringBuilder(Edges.plain(n));
            int number = 0;
            for (int a = 0; a < n; a++) {
                for (int b = a + 1; b < n; b++) {
                    if (Edges.canBe(n, a, b)) {
                        calls.append(" cutOf(N,0)=A cutOf(N,1)=B".replace("N", "" + number).replace("A", "" + a)
                                .replace("B", "" + b));
                        number++;
                    }
                }
            }
            e.is("cuts of " + n, number, due[n - 4]);
            e.run(calls + " cutOf(" + number + ",0)=BAD cutOf(-1,0)=BAD whole(8)=" + number);
        }
    }

    private static void pieces(Edges e) {
        e.terms("PIECES: what the CUTS part the POLYGON into (1 more than CUTS).");
        for (int n = 4; n <= 9; n++) {
            for (int cuts = 0; cuts <= n - 3; cuts++) {
                e.run(Edges.plain(n, Edges.fan(cuts)), "whole(0)=" + cuts + " count(2)=" + cuts + " whole(2)="
                        + (cuts + 1));
            }
        }
        e.run(Edges.plain(9), "piece(0)={0,1,2,3,4,5,6,7,8} piece(8)={0,1,2,3,4,5,6,7,8}");
    }

    private static void counts(Edges e) {
        e.terms("COUNT of a CORNER: a plain one 1 more than the CUTS at it; a twofold one twice that; a minus "
                + "less that "
                + "(0 less it); a fixed one K; an open one 1 more than K.");
        // without cuts and with as many at one corner as there can be
        e.run("<p9;t9;m9;f0;o0;>=5 corner(0,0)=1 corner(1,0)=2 corner(2,0)=-1 corner(3,0)=0 corner(4,0)=1");
        e.run("<p0;t0;m0;f9;o9;>=5 corner(0,0)=1 corner(1,0)=2 corner(2,0)=-1 corner(3,0)=9 corner(4,0)=10");
        e.run(Edges.plain(9, Edges.fan(6)), "corner(0,0)=7 become(0,2)=1 corner(0,0)=14 become(0,3)=2 corner(0,0)=-7",
                "become(0,4)=3 corner(0,0)=0 become(0,5)=4 corner(0,0)=1 number(0,9)=0 corner(0,0)=10 corner(1,0)=1",
                "corner(2,0)=2 corner(7,0)=2 corner(8,0)=1");
    }

    private static void corner(Edges e) {
        e.promise(18, "Of a CORNER: 0 COUNT, 1 K, 2 its CUTS (how many), 3 CORNERS to which they go (bits).");
        e.run("<t5;p0;m0;f9;d0,2;>=4 corner(0,0)=4 corner(0,1)=5 corner(0,2)=1 corner(0,3)={2} corner(1,0)=1",
                "corner(1,1)=0 corner(1,2)=0 corner(1,3)=0 corner(2,3)={0} corner(3,0)=9 corner(3,1)=9 corner(3,3)=0");
        e.run(Edges.plain(9, Edges.fan(6)), "corner(0,2)=6 corner(0,3)={2,3,4,5,6,7} corner(8,2)=0 corner(8,3)=0",
                "mirror() corner(8,2)=6 corner(8,3)={1,2,3,4,5,6} corner(1,3)={8}");
        e.promise(18, "BAD.");
        e.run("corner(0,0)=BAD corner(-1,0)=BAD");
        e.run(Edges.plain(4), "corner(-1,0)=BAD corner(4,0)=BAD corner(MIN,0)=BAD corner(MAX,0)=BAD corner(0,-1)=BAD",
                "corner(0,4)=BAD corner(0,MIN)=BAD corner(0,MAX)=BAD corner(3,3)=0 corner(3,4)=BAD corner(4,4)=BAD");
        e.run(Edges.plain(9), "corner(8,0)=1 corner(9,0)=BAD");
    }

    private static void cutOf(Edges e) {
        e.promise(19, "Of a CUT (its number): 0 A, 1 B, 2 whether it is there (1, 0), 3 that which it becomes FLIPPED "
                + "(NONE: it can not be).");
        e.run(Edges.plain(4, "d1,3;"), "cutOf(0,0)=0 cutOf(0,1)=2 cutOf(0,2)=0 cutOf(0,3)=NONE cutOf(1,0)=1",
                "cutOf(1,1)=3",
                "cutOf(1,2)=1 cutOf(1,3)=0");
        // beside a piece of four it can't be
        e.run(Edges.plain(6, "d0,2;d0,3;"), "cutOf(0,3)=3 cutOf(1,3)=NONE cutOf(2,3)=NONE cutOf(1,2)=1 cutOf(8,2)=0");
        e.run(Edges.plain(9, "d1,8;d2,8;d3,8;d4,8;d5,8;d6,8;"), "cutOf(26,0)=6 cutOf(26,1)=8 cutOf(26,2)=1",
                "cutOf(26,3)=24 cutOf(11,3)=0 cutOf(0,2)=0 cutOf(0,3)=NONE");
        e.promise(19, "BAD: there is no such number, too.");
        e.run("cutOf(0,0)=BAD cutOf(-1,0)=BAD");
        e.run(Edges.plain(4), "cutOf(-1,0)=BAD cutOf(2,0)=BAD cutOf(MIN,0)=BAD cutOf(MAX,0)=BAD cutOf(0,-1)=BAD",
                "cutOf(0,4)=BAD cutOf(0,MIN)=BAD cutOf(0,MAX)=BAD cutOf(1,3)=NONE cutOf(1,4)=BAD cutOf(32,0)=BAD");
        e.run(Edges.plain(9), "cutOf(26,0)=6 cutOf(27,0)=BAD");
    }

    private static String numbers(int corner, long... due) {
        StringBuilder calls = new StringBuilder();
        for (int k = 0; k < due.length; k++) {
            calls.append("frieze(").append(corner).append(',').append(k).append(")=").append(due[k]).append(' ');
        }
        return calls.toString();
    }

    private static void frieze(Edges e) {
        e.terms("FRIEZE: number k of CORNER i, F(i, k): F(i, 0) is 0, F(i, 1) is 1; F(i, k) is COUNT of the "
                + "CORNER k less "
                + "1 behind i, times F(i, k less 1), less F(i, k less 2), for k up to 20;");
        // around the ring again and again
        e.run("<f1;f2;f3;f4;>=4", numbers(3, 0, 1, 1, 1, 2, 7, 5, 3, 4, 13, 9, 5, 6, 19, 13, 7, 8, 25, 17, 9, 10));
        e.run("<f2;f2;f2;f2;f2;f2;f2;f2;f2;>=9 frieze(8,19)=19 frieze(8,20)=20");
        e.run("<f0;f0;f0;f0;f0;>=5", numbers(4, 0, 1, 0, -1, 0, 1, 0), "frieze(4,19)=-1 frieze(4,20)=0");
        e.run("<m0;m0;m0;m0;>=4", numbers(0, 0, 1, -1, 0, 1, -1, 0), "frieze(0,19)=1 frieze(0,20)=-1");
        // a product and what comes of it have unlike signs, though nothing is beyond
        e.run("<f9;f2;f0;m0;>=4", numbers(0, 0, 1, 2, -1, -1), "status()=0");
        e.run("<f9;m0;f3;m0;f0;>=5", numbers(0, 0, 1, -1, -4, 5, 4), numbers(3, 0, 1, 0, -1, 1), "status()=0");
        e.promise(20, "F(i, k), k 0 to 20.");
        e.run("<f3;f3;f3;f3;>=4", numbers(0, 0, 1, 3, 8, 21, 55, 144, 377, 987), "frieze(3,20)=102334155");
        e.promise(20, "BAD;");
        e.run("frieze(0,0)=BAD frieze(0,-1)=BAD frieze(-1,0)=BAD");
        e.run(Edges.plain(4), "frieze(0,-1)=BAD frieze(0,21)=BAD frieze(0,MIN)=BAD frieze(0,MAX)=BAD frieze(-1,0)=BAD",
                "frieze(4,0)=BAD frieze(MIN,0)=BAD frieze(MAX,0)=BAD frieze(3,20)=1 frieze(3,21)=BAD frieze(4,20)=BAD");
        e.run(Edges.plain(9), "frieze(8,20)=1 frieze(9,20)=BAD");
    }

    private static void friezeBeyond(Edges e) {
        e.terms("OVER, if that, or a product or a number ahead of it is beyond.");
        // the greatest product that is within: 9100647874520945554
        e.run("<t0;o8;o9;o9;o9;o9;o9;o9;o6;" + Edges.fan(6) + ">=9 frieze(8,20)=9006424333472376514 status()=0");
        // products beyond, though the numbers, 9180648824913199818 and 9212254358007245500, would be within
        e.run("<t0;o9;o9;o9;o7;o9;o9;o9;o9;" + Edges.fan(5) + ">=9 frieze(8,20)=OVER frieze(8,19)=771549260696186099");
        e.run("<t0;o9;o9;o9;o9;o9;o7;o9;" + Edges.fan(5) + ">=8 frieze(6,20)=OVER frieze(6,0)=0");
        // a number beyond: 9266913696776606936
        e.run("<t0;o9;o9;o9;o7;o7;o9;o9;o9;" + Edges.fan(6) + ">=9 frieze(8,20)=OVER frieze(7,20)=6619363950875151340");
        e.promise(20, "OVER.");
        e.run("<t0;o9;o9;o9;o9;o9;o9;o9;o9;" + Edges.fan(6) + ">=9 frieze(0,19)=1664003234919913075 frieze(8,20)=OVER",
                "status()=6 frieze(8,21)=BAD status()=6 frieze(9,20)=BAD frieze(8,-1)=BAD status()=6 frieze(8,1)=1");
        e.run("<o9;o9;o9;o9;>=4 frieze(0,20)=8330534515080964900 status()=0");
    }

    private static void whole(Edges e) {
        e.promise(21, "0 CUTS (how many), 1 their bits, 2 PIECES, 3 whether the FRIEZE CLOSES (1, 0), 4 PERIOD, 5 "
                + "NOUGHTS, 6 BELOW (bits), 7 whether it is TRIANGLED (1, 0), 8 how many numbers CUTS can have.");
        e.run(Edges.plain(4, "d0,2;"), "whole(0)=1 whole(1)={0} whole(2)=2 whole(3)=1 whole(4)=2 whole(5)=0 whole(6)=0",
                "whole(7)=1 whole(8)=2");
        e.run("<f2;f2;f2;f0;d1,3;>=4 whole(0)=1 whole(1)={1} whole(2)=2 whole(3)=0 whole(4)=4 whole(5)={2}",
                "whole(6)={1,2} whole(7)=1 whole(8)=2");
        e.run(Edges.plain(9), "whole(0)=0 whole(1)=0 whole(2)=1 whole(3)=1 whole(4)=1 whole(7)=0 whole(8)=27");
        e.promise(21, "BAD;");
        e.run(Edges.plain(4), "whole(-1)=BAD whole(9)=BAD whole(MIN)=BAD whole(MAX)=BAD whole(8)=2");
        e.promise(21, "STATE: no POLYGON (ahead of BAD).");
        e.run("whole(0)=STATE whole(8)=STATE whole(-1)=STATE whole(9)=STATE whole(MIN)=STATE whole(MAX)=STATE");
    }

    private static void closes(Edges e) {
        e.terms("It CLOSES, if of each CORNER number n (of CORNERS) is 0 and number n less 1 is 1.");
        for (int n = 4; n <= 9; n++) {
            e.run(Edges.plain(n, Edges.fan(n - 3)), "whole(3)=1 frieze(0," + n + ")=0 frieze(0," + (n - 1) + ")=1");
            e.run(Edges.plain(n, Edges.fan(n - 4)), "whole(3)=0");
        }
        // number n is 0, but number n less 1 is not 1
        e.run("<f0;f0;f0;f0;>=4 frieze(0,4)=0 frieze(0,3)=-1 whole(3)=0");
        e.run(Edges.plain(6), "frieze(0,6)=0 frieze(0,5)=-1 whole(3)=0");
        e.run("<m0;m0;m0;m0;m0;m0;>=6 frieze(0,6)=0 frieze(0,5)=-1 whole(3)=0");
        // number n less 1 is 1 of each, but number n is not 0
        e.run("<m0;m0;m0;m0;m0;>=5 frieze(0,4)=1 frieze(0,5)=-1 whole(3)=0");
        // both are so without any cut
        e.run("<f0;f0;f0;f0;f0;f0;>=6 frieze(0,6)=0 frieze(0,5)=1 whole(3)=1");
        e.run(Edges.plain(9), "frieze(0,9)=0 frieze(0,8)=1 whole(3)=1");
        // of one corner alone they are, as its own count does not matter to its numbers
        e.run("<f1;f2;f1;f2;>=4 whole(3)=1 number(0,5) frieze(0,3)=1 frieze(0,4)=0 whole(3)=0");
        e.run("<f1;f2;f1;f2;>=4 number(3,5) frieze(3,3)=1 frieze(3,4)=0 whole(3)=0");
        // number n less 1 of one is 1, but number n is not 0
        e.run("<f9;f1;f2;f9;>=4 frieze(0,3)=1 frieze(0,4)=8 whole(3)=0");
    }

    private static void period(Edges e) {
        e.terms("PERIOD: the least p (1 to n) by which COUNTS turned by p CORNERS are the same.");
        e.run("<f1;f1;f1;f1;>=4 whole(4)=1 number(3,2) whole(4)=4 number(1,2) whole(4)=2 number(0,2) whole(4)=4");
        e.run("<f1;f1;f1;f1;f2;>=5 whole(4)=5 number(4,1) whole(4)=1");
        e.run("<f1;f2;f3;f1;f2;f3;>=6 whole(4)=3 number(2,1) number(5,1) whole(4)=3 number(5,3) whole(4)=6");
        e.run("<f1;f2;f1;f2;f1;f2;>=6 whole(4)=2");
        e.run("<f1;f2;f3;f4;f1;f2;f3;f4;>=8 whole(4)=4 number(7,5) whole(4)=8");
        e.run("<f1;f2;f3;f1;f2;f3;f1;f2;f3;>=9 whole(4)=3 number(8,4) whole(4)=9");
        // counts, not kinds
        e.run("<p0;f1;o0;f1;>=4 whole(4)=1 become(0,2) whole(4)=4");
    }

    private static void noughts(Edges e) {
        e.terms("NOUGHTS (bits): CORNERS of which any number 1 to n less 1 is 0;");
        // numbers 0 and n are 0 of each, and do not matter
        e.run(Edges.plain(9, Edges.fan(6)), "frieze(0,0)=0 frieze(0,9)=0 whole(5)=0");
        // number n less 1 alone, number 2 alone
        e.run("<f1;f1;f2;f2;>=4", numbers(3, 0, 1, 1, 0), "whole(5)={3}");
        e.run("<f2;f2;f2;f0;>=4", numbers(2, 0, 1, 0, -1), "whole(5)={2}");
        e.run("<f0;f0;f0;f0;f0;f0;f0;f0;f0;>=9 whole(5)={0,1,2,3,4,5,6,7,8} whole(6)={0,1,2,3,4,5,6,7,8}");
        e.terms("BELOW (bits): any of these is less than 0.");
        // number n is, and does not matter
        e.run(Edges.plain(4), numbers(0, 0, 1, 1, 0, -1), "whole(6)=0");
        e.run("<f2;f2;f2;f0;>=4", numbers(1, 0, 1, 2, -1), "whole(6)={1,2}");
        e.run("<f2;f2;f2;m0;>=4", numbers(2, 0, 1, -1, -3), numbers(3, 0, 1, 2, 3), "whole(5)=0 whole(6)={1,2}");
    }

    private static void triangled(Edges e) {
        e.terms("TRIANGLED is a POLYGON with n less 3 CUTS.");
        for (int n = 4; n <= 9; n++) {
            e.run(Edges.plain(n, Edges.fan(n - 4)), "whole(7)=0 cut(0," + (n - 2) + ")=" + (n - 3) + " whole(7)=1");
        }
    }

    private static void piece(Edges e) {
        e.promise(22, "The PIECE in which the side from a CORNER to the next one is: its CORNERS (bits).");
        e.run(Edges.plain(4), "piece(0)={0,1,2,3} piece(3)={0,1,2,3}");
        e.run(Edges.plain(4, "d1,3;"), "piece(0)={0,1,3} piece(1)={1,2,3} piece(2)={1,2,3} piece(3)={0,1,3}");
        // under the nearest of several cuts
        e.run(Edges.plain(6, "d1,4;d1,5;"), "piece(0)={0,1,5} piece(2)={1,2,3,4} piece(4)={1,4,5} piece(5)={0,1,5}");
        e.run(Edges.plain(6, "d0,3;d0,4;"), "piece(1)={0,1,2,3} piece(3)={0,3,4} piece(5)={0,4,5}");
        e.run(Edges.plain(6, "d1,5;d2,5;"), "piece(0)={0,1,5} piece(1)={1,2,5} piece(3)={2,3,4,5}");
        e.run(Edges.plain(9, "d0,2;d2,8;d4,6;"), "piece(0)={0,1,2} piece(1)={0,1,2} piece(2)={2,3,4,6,7,8}",
                "piece(3)={2,3,4,6,7,8} piece(4)={4,5,6} piece(5)={4,5,6} piece(7)={2,3,4,6,7,8} piece(8)={0,2,8}");
        e.promise(22, "BAD.");
        e.run("piece(0)=BAD", Edges.plain(4), "piece(-1)=BAD piece(4)=BAD piece(MIN)=BAD piece(MAX)=BAD piece(3)=15");
        e.run(Edges.plain(9), "piece(8)=511 piece(9)=BAD");
    }

    private static void readBack(Edges e) {
        e.terms("READ BACK a row of n numbers: as long as there are more than 3 CORNERS left, the first of those left "
                + "that has 1 goes (a CUT between the ones beside it that are left; each of both counts 1 less); then "
                + "the three left must have 1 each: the CUTS (bits);");
        e.run(Edges.plain(4), "0:[1,2,1,2] back(0,0)={1} 0:[2,1,2,1] back(0,0)={0}");
        // the first corner goes between the last and the second; the last one between the one ahead and the first
        e.run(Edges.plain(5), "0:[1,3,1,2,2] back(0,0)={2,3} 0:[1,2,2,1,3] back(0,0)={3,4} 0:[2,2,1,3,1]",
                "back(0,0)={1,2}",
                "0:[3,1,2,2,1] back(0,0)={0,1} 0:[2,1,3,1,2] back(0,0)={0,4}");
        e.run(Edges.plain(9), "0:[7,1,2,2,2,2,2,2,1] back(0,0)={0,1,2,3,4,5} 0:[1,2,2,2,2,2,2,1,7]",
                "back(0,0)={11,16,20,23,25,26}");
        // bytes are read with their sign: 257 is 1
        e.run(Edges.plain(4), "row(0,0,4) set(0,0,257) set(0,1,2) set(0,2,-255) set(0,3,258) back(0,0)={1}");
    }

    private static void readBackNone(Edges e) {
        e.terms("NONE, if there is none that has 1,");
        e.run(Edges.plain(4), "0:[2,2,2,2] back(0,0)=NONE 0:[0,0,0,0] back(0,0)=NONE 0:[-1,-1,-1,-1] back(0,0)=NONE");
        e.run(Edges.plain(6), "0:[1,3,3,3,3,3] back(0,0)=NONE 0:[MAX,MAX,MAX,MAX,MAX,MAX] back(0,0)=NONE");
        e.terms("or any other comes to 0 or less,");
        e.run(Edges.plain(4), "0:[1,1,2,2] back(0,0)=NONE 0:[1,1,1,1] back(0,0)=NONE 0:[1,2,1,1] back(0,0)=NONE",
                "0:[1,0,1,2] back(0,0)=NONE 0:[1,2,1,0] back(0,0)=NONE 0:[1,MIN,1,2] back(0,0)=NONE",
                "0:[1,2,1,MIN] back(0,0)=NONE");
        e.run(Edges.plain(5), "0:[1,2,1,3,2] back(0,0)=NONE 0:[2,2,2,2,1] back(0,0)=NONE");
        e.terms("or the three have not 1 each.");
        e.run(Edges.plain(4), "0:[1,2,2,2] back(0,0)=NONE 0:[1,2,0,2] back(0,0)=NONE 0:[1,3,1,2] back(0,0)=NONE",
                "0:[1,2,1,3] back(0,0)=NONE 0:[1,2,MIN,2] back(0,0)=NONE 0:[1,2,MAX,2] back(0,0)=NONE",
                "0:[1,2,-1,2] back(0,0)=NONE");
    }

    private static void back(Edges e) {
        e.promise(23, "READ BACK as many ITEMS of a ROW from i on as there are CORNERS: bits of CUTS; NONE.");
        e.run(Edges.plain(4), "0:[9,1,2,1,2,1] back(0,0)=NONE back(0,1)={1} back(0,2)={0} whole(1)=0 count(4)=0");
        e.run(Edges.plain(4), "row(0,1,40)=40 set(0,36,2) set(0,37,1) set(0,38,2) set(0,39,1) back(0,36)={0}",
                "back(0,35)=NONE back(0,37)=PLACE");
        e.promise(23, "BAD: ROW;");
        e.run(Edges.plain(4), "back(-1,0)=BAD back(8,0)=BAD back(MIN,0)=BAD back(MAX,0)=BAD back(8,-1)=BAD");
        e.promise(23, "STATE: no POLYGON (ahead of BAD);");
        e.run("back(8,0)=STATE back(-1,-1)=STATE back(0,0)=STATE 0:[1,2,1,2] back(0,0)=STATE back(0,-1)=STATE");
        e.promise(23, "NULL;");
        e.run(Edges.plain(4), "back(0,0)=NULL back(7,0)=NULL back(0,-1)=NULL back(0,MAX)=NULL");
        e.promise(23, "PLACE.");
        e.run(Edges.plain(4), "0:[1,2,1,2] back(0,0)={1} back(0,1)=PLACE back(0,-1)=PLACE back(0,MIN)=PLACE",
                "back(0,MAX)=PLACE 0:[1,2,1] back(0,0)=PLACE row(0,0,0) back(0,0)=PLACE");
        e.run(Edges.plain(9), "0:[7,1,2,2,2,2,2,2] back(0,0)=PLACE row(0,2,40) back(0,31)=NONE back(0,32)=PLACE");
    }
}
