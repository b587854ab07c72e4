/** The edges of promises 6 to 8 and of what the terms say of texts. */
final class TextEdges {
    private static final String SQUARE = "p0;p0;p0;p0;", NINE = "p0;".repeat(9);

    private TextEdges() {
    }

    static void all(Edges e) {
        feed(e);
        tokens(e);
        tokensByByte(e);
        cornersTold(e);
        sortsTold(e);
        cutsTold(e);
        cutsNotSo(e);
        everyCut(e);
        read(e);
        firstFault(e);
        faultOne(e);
        faultTwo(e);
        faultThree(e);
        polygon(e);
        fault(e);
    }

    private static String fed(String text) {
        StringBuilder calls = new StringBuilder();
        for (int i = 0; i < text.length(); i++) {
            calls.append("feed(").append((int) text.charAt(i)).append(") ");
        }
        return calls.toString();
    }

    private static void good(Edges e, String text, int corners) {
        e.run(fed(text), "polygon()=" + corners, "fault()=0 count(5)=0 count(1)=" + corners);
    }

    /** A polygon that has been turned stays as it is behind a text with a fault. */
    private static void bad(Edges e, String text, int number, int place) {
        e.run("<" + SQUARE + "p0;d1,3;>=5 turn(1)", fed(text), "polygon()=F" + place, "fault()=" + number,
                "count(5)=0 count(1)=5 whole(1)={4} count(4)=1");
    }

    private static void feed(Edges e) {
        e.promise(6, "A byte (0 to 255) comes behind the tape: how many it has.");
        e.run("feed(0)=1 feed(255)=2 feed(1)=3 feed(254)=4 count(5)=4 polygon()=F0 feed(59)=1");
        e.promise(6, "BAD;");
        e.run("feed(-1)=BAD feed(256)=BAD feed(MIN)=BAD feed(MAX)=BAD feed(368)=BAD count(5)=0");
        e.run("+p0;p0;p0;p0 feed(-1)=BAD feed(315)=BAD feed(59)=12 polygon()=4");
        StringBuilder full = new StringBuilder();
        for (int i = 1; i <= 117; i++) {
            full.append("feed(").append((int) "p0;".charAt((i - 1) % 3)).append(") ");
        }
        full.append("feed(112)=118 feed(48)=119 feed(59)=120 ");
        e.promise(6, "FULL.");
        e.run(full + "feed(112)=FULL feed(0)=FULL feed(255)=FULL count(5)=120 polygon()=F27 feed(112)=1");
        e.promise(6, "BAD; FULL.");
        e.run(full + "feed(256)=BAD feed(-1)=BAD");
        e.terms("TEXTS: THE TAPE has at most 120 bytes, that come one by one;");
        e.run(full + "count(5)=120 feed(59)=FULL count(5)=120 polygon()=F27 fault()=3 count(5)=0");
    }

    private static void tokens(Edges e) {
        e.terms("TOKENS: letters a to z (each by itself), NUMBERS (figures, 2 at most), SIGNS , and ; nothing else.");
        bad(e, "pp0;p0;p0;p0;", 1, 1);
        bad(e, "pt0;p0;p0;p0;", 1, 1);
        bad(e, "a0;p0;p0;p0;", 1, 0);
        bad(e, "z0;p0;p0;p0;", 1, 0);
        bad(e, "p 0;p0;p0;p0;", 1, 1);
        bad(e, "p-0;p0;p0;p0;", 1, 1);
        bad(e, SQUARE + "\n", 1, 12);
        bad(e, SQUARE + "d0,,2;", 1, 15);
        bad(e, SQUARE + "dd0,2;", 1, 13);
        good(e, "p00;p09;p9;p0;", 4);
        bad(e, "p009;p0;p0;p0;", 1, 1);
        e.run("<p00;p09;p9;p07;>=4 corner(0,1)=0 corner(1,1)=9 corner(2,1)=9 corner(3,1)=7");
        e.run("<p0;p0;p0;p0;d00,02;>=4 whole(1)={0}");
    }

    /** Each byte in each place where a token is looked for. */
    private static void tokensByByte(Edges e) {
        for (int i = 0; i < 256; i++) {
            String one = "" + (char) i;
            boolean sort = "ptmfo".contains(one);
            boolean figure = i >= '0' && i <= '9';
            check(e, one + "0;p0;p0;p0;", sort ? 4 : -1000100);
            check(e, "p" + one + ";p0;p0;p0;", figure ? 4 : -1000101);
            check(e, "p00" + one + "p0;p0;p0;", one.equals(";") ? 4 : figure ? -1000101 : -1000103);
            check(e, SQUARE + one, sort || one.equals("d") ? -1000113 : -1000112);
            check(e, SQUARE + "d00" + one + "2;", one.equals(",") ? 4 : figure ? -1000113 : -1000115);
            check(e, SQUARE + "d0,2" + one, one.equals(";") ? 4 : figure ? -1000115 : -1000116);
        }
    }

    private static void check(Edges e, String text, int due) {
        FriezePolygons x = new FriezePolygons();
        e.is("polygon() of " + text, Due.read(x, text), due);
        // only 0,2 followed by a figure is a number that is not as told
        boolean tooGreat = due == -1000115 && text.matches(".*d0,2\\d");
        e.is("fault() of " + text, x.fault(), due > 0 ? 0 : tooGreat ? 2 : 1);
    }

    private static void cornersTold(Edges e) {
        e.terms("polygon: corner corner corner corner { corner } { cut }.");
        for (int n = 0; n <= 3; n++) {
            bad(e, "p0;".repeat(n), 1, 3 * n);
            bad(e, "p0;".repeat(n) + "d0,2;", 1, 3 * n);
        }
        for (int n = 4; n <= 9; n++) {
            for (int cuts = 0; cuts <= n - 3; cuts++) {
                good(e, "p0;".repeat(n) + Edges.fan(cuts), n);
            }
        }
        bad(e, NINE + "p0;", 3, 27);
        bad(e, SQUARE + "d0,2;p0;", 1, 17);
        bad(e, SQUARE + "d0,2;;", 1, 17);
        bad(e, SQUARE + "p0;d0,2;d0,3;d0,2;", 2, 28);
    }

    private static void sortsTold(Edges e) {
        e.terms("corner: SORT K ; (p a plain one, t a twofold one, m a minus, f a fixed one, o an open one;");
        e.run("<p1;t2;m3;f4;o5;>=5 kind(0)=1 kind(1)=2 kind(2)=3 kind(3)=4 kind(4)=5",
                "corner(0,1)=1 corner(1,1)=2 corner(2,1)=3 corner(3,1)=4 corner(4,1)=5");
        bad(e, "p;p0;p0;p0;", 1, 1);
        bad(e, "p0p0;p0;p0;", 1, 2);
        bad(e, "P0;p0;p0;p0;", 1, 0);
        e.terms("0 to 9; CORNERS 0 .. 8, 4 to 9).");
        for (char sort : "ptmfo".toCharArray()) {
            good(e, "p0;p0;p0;" + sort + "0;", 4);
            good(e, "p0;p0;p0;" + sort + "9;", 4);
            bad(e, "p0;p0;p0;" + sort + "10;", 2, 10);
            bad(e, "p0;p0;p0;" + sort + "99;", 2, 10);
            bad(e, NINE + sort + "0;", 3, 27);
        }
        bad(e, "p0;p0;p0;", 1, 9);
        good(e, SQUARE, 4);
        good(e, NINE, 9);
        e.run("<" + NINE + ">=9 kind(0)=1 kind(8)=1 kind(9)=BAD kind(-1)=BAD");
        e.run("<" + SQUARE + ">=4 kind(3)=1 kind(4)=BAD");
    }

    private static void cutsTold(Edges e) {
        e.terms("cut: d A , B ; (two CORNERS, A less than B, neither side by side nor the first and the last;");
        good(e, SQUARE + "d0,2;", 4);
        good(e, SQUARE + "d1,3;", 4);
        good(e, NINE + "d0,7;", 9);
        good(e, NINE + "d6,8;", 9);
        bad(e, SQUARE + "d3,1;", 2, 15);
        bad(e, SQUARE + "d2,0;", 2, 15);
        bad(e, SQUARE + "d1,1;", 2, 15);
        bad(e, SQUARE + "d0,1;", 2, 15);
        bad(e, SQUARE + "d2,3;", 2, 15);
        bad(e, SQUARE + "d0,3;", 2, 15);
        bad(e, NINE + "d0,8;", 2, 30);
        bad(e, NINE + "d7,8;", 2, 30);
        bad(e, SQUARE + "d4,2;", 2, 13);
        bad(e, SQUARE + "d0,4;", 2, 15);
        bad(e, NINE + "d9,2;", 2, 28);
        bad(e, NINE + "d2,9;", 2, 30);
        bad(e, SQUARE + "d99,2;", 2, 13);
        bad(e, SQUARE + "d0,99;", 2, 15);
        bad(e, SQUARE + "d100,2;", 1, 13);
        bad(e, SQUARE + "d0,100;", 1, 15);
    }

    private static void cutsNotSo(Edges e) {
        e.terms("B that is not so, a CUT that is there, one that crosses one that is there: FAULT 2 at B).");
        bad(e, SQUARE + "d3,3;", 2, 15);
        bad(e, SQUARE + "d03,3;", 2, 16);
        bad(e, SQUARE + "d3,03;", 2, 15);
        bad(e, SQUARE + "d0,2;d0,2;", 2, 20);
        bad(e, SQUARE + "d0,2;d00,02;", 2, 21);
        bad(e, SQUARE + "d0,2;d1,3;", 2, 20);
        bad(e, SQUARE + "d1,3;d0,2;", 2, 20);
        bad(e, NINE + "d2,6;d0,3;", 2, 35);
        bad(e, NINE + "d2,6;d5,7;", 2, 35);
        bad(e, NINE + "d2,6;d1,7;d0,4;", 2, 40);
        // at an end of it, within it, around it and beside it it does not cross
        good(e, NINE + "d2,6;d2,5;d3,5;d1,6;d1,7;d1,8;", 9);
        // neither A nor what is behind B is at fault ahead of B
        bad(e, SQUARE + "d0,2;d1,3x", 2, 20);
        bad(e, SQUARE + "d0,1x", 2, 15);
    }

    /** Each pair of numbers up to two beyond the last corner. */
    private static void everyCut(Edges e) {
        for (int n = 4; n <= 9; n++) {
            for (int a = 0; a <= n + 1; a++) {
                for (int b = 0; b <= n + 1; b++) {
                    FriezePolygons x = new FriezePolygons();
                    String text = "p0;".repeat(n) + "d" + a + "," + b + ";";
                    int placeOfB = text.indexOf(',') + 1;
                    int refused = a >= n ? -1000100 - (3 * n + 1) : -1000100 - placeOfB;
                    boolean so = a < b && Edges.canBe(n, a, b);
                    e.is("polygon() of " + text, Due.read(x, text), so ? n : refused);
                    e.is("fault() of " + text, x.fault(), so ? 0 : 2);
                }
            }
        }
    }

    private static void read(Edges e) {
        e.terms("A POLYGON that is read stands in place of the one before (none at first);");
        e.run("count(1)=0 <p0;t1;m2;f3;o4;d0,2;>=5 <t5;t6;t7;t8;>=4 count(1)=4 count(2)=0 kind(0)=2 corner(3,1)=8",
                "kind(4)=BAD whole(8)=2");
        e.run("<" + SQUARE + "d0,2;>=4 <" + NINE + "d6,8;>=9 whole(1)={26} kind(8)=1 corner(0,2)=0");
        e.terms("no ACT can be undone; IMAGES and ROWS stay.");
        e.run("<" + SQUARE + "d0,2;>=4 turn(1) number(1,4) image(0) mirror() image(1) 0:[3,4] count(4)=3",
                "<" + SQUARE + "p0;>=5 count(4)=0 undo()=STATE count(0)=1 restore(0)=1 whole(1)={1} corner(1,1)=4",
                "restore(1)=1 whole(1)={0}");
        e.terms("CORNERS are in a ring: behind the last one comes CORNER 0.");
        e.run("<f7;f2;f3;f4;>=4 frieze(3,2)=7 frieze(3,3)=13 frieze(2,3)=27 cut(3,0)=BAD cut(0,3)=BAD");
        e.run("<" + NINE + "d0,7;>=9 piece(8)={0,7,8} piece(7)={0,7,8} turn(1)={11} turn(1)={0} turn(7)={5}");
    }

    private static void firstFault(Edges e) {
        e.terms("FAULTS, the first TOKEN that has one (its first byte), of one TOKEN the least:");
        bad(e, "p10;x", 2, 1);
        bad(e, "x10;p10;", 1, 0);
        bad(e, "p0;p0;p0;p77,", 2, 10);
        bad(e, SQUARE + "d7,7;", 2, 13);
        bad(e, NINE + "p10;", 3, 27);
        // a number that is too great and can't stand there, or is none
        bad(e, "p0;10;p0;p0;", 1, 3);
        bad(e, "p100;p0;p0;p0;", 1, 1);
        bad(e, SQUARE + "d999,2;", 1, 13);
        // a corner more than there is room for that can't stand there
        bad(e, NINE + "d0,2;p0;", 1, 32);
        bad(e, NINE + "d0,2p0;", 1, 31);
    }

    private static void faultOne(Edges e) {
        e.terms("1 it cannot stand there, or is none (a run of three figures or more, at its first;");
        bad(e, "p000;p0;p0;p0;", 1, 1);
        bad(e, "p00;p0000;p0;p0;", 1, 5);
        bad(e, SQUARE + "123", 1, 12);
        bad(e, SQUARE + "d0,0002;", 1, 15);
        bad(e, "p" + "0".repeat(119), 1, 1);
        bad(e, ";", 1, 0);
        bad(e, "p0;,", 1, 3);
        e.terms("the end: how many bytes there are);");
        bad(e, "", 1, 0);
        bad(e, "p", 1, 1);
        bad(e, "p0", 1, 2);
        bad(e, "p00", 1, 3);
        bad(e, SQUARE + "o", 1, 13);
        bad(e, SQUARE + "o5", 1, 14);
        bad(e, SQUARE + "d", 1, 13);
        bad(e, SQUARE + "d0", 1, 14);
        bad(e, SQUARE + "d0,", 1, 15);
        bad(e, SQUARE + "d0,2", 1, 16);
        bad(e, SQUARE + "d0,02", 1, 17);
    }

    private static void faultTwo(Edges e) {
        e.terms("2 a NUMBER that is not as told;");
        bad(e, "p10;", 2, 1);
        bad(e, "p10", 2, 1);
        bad(e, "p0;p0;p0;p0;o10;", 2, 13);
        bad(e, SQUARE + "d4", 2, 13);
        bad(e, SQUARE + "d04,", 2, 13);
        bad(e, SQUARE + "d3,4", 2, 15);
    }

    private static void faultThree(Edges e) {
        e.terms("3 a corner more than there is room for (its letter).");
        bad(e, NINE + "p", 3, 27);
        bad(e, NINE + "o0;", 3, 27);
        bad(e, "p00;".repeat(9) + "m;", 3, 36);
        bad(e, NINE + "q0;", 1, 27);
        bad(e, NINE + "0;", 1, 27);
        good(e, NINE + "d0,2;", 9);
    }

    private static void polygon(Edges e) {
        e.promise(7, "The tape, empty then, is read: how many CORNERS there are.");
        for (int n = 4; n <= 9; n++) {
            e.run("+" + "p0;".repeat(n), "polygon()=" + n, "count(5)=0 polygon()=F0 count(1)=" + n);
        }
        e.promise(7, "-1000100 less the place of a FAULT: all but the tape, and what fault() tells, stays.");
        e.run("polygon()=F0 fault()=1 <p10;>=F1 fault()=2 count(5)=0 count(1)=0");
        e.run("<p1;t2;m3;f4;d0,2;>=4 image(0) turn(1) number(2,9) 0:[1,2] ask(2,0) as(0,5)=KIND",
                "<" + NINE + "t0;>=F27 fault()=3 status()=3 count(4)=2 corner(2,1)=9 whole(1)={1} trace(0)=11",
                "count(0)=1 undo()=1 undo()=0 whole(1)={0}");
    }

    private static void fault(Edges e) {
        e.promise(8, "The number of the latest FAULT;");
        e.run("<p>=F1 fault()=1 <p10;>=F1 fault()=2 <" + NINE + "p>=F27 fault()=3 <>=F0 fault()=1");
        e.run("<p10;>=F1 <" + SQUARE + ">=4 fault()=2 fault()=2");
        e.promise(8, "0 before one.");
        e.run("fault()=0 +p10; fault()=0 polygon()=F1 fault()=2");
        e.run("<" + SQUARE + ">=4 fault()=0 cut(0,1)=BAD fault()=0");
    }
}
