/** The edges of promises 1 to 5 and of what the terms say of rows. */
final class RowEdges {
    /** Its corner 0 shows items. */
    private static final String FIXED = "<f0;f0;f0;f0;>=4";

    private RowEdges() {
    }

    static void all(Edges e) {
        newObject(e);
        rowsOfTerms(e);
        row(e);
        rowRefused(e);
        set(e);
        setRefused(e);
        copy(e);
        copyRefused(e);
        copyOutOfPlace(e);
        drop(e);
    }

    private static void newObject(Edges e) {
        e.promise(1, "No POLYGON.");
        e.run("count(1)=0 count(2)=0 count(3)=0 count(4)=0 mirror()=STATE ways()=STATE whole(0)=STATE image(0)=STATE");
        e.run("turn(1)=BAD kind(0)=BAD corner(0,0)=BAD piece(0)=BAD frieze(0,0)=BAD cut(0,2)=BAD join(0)=BAD");
        e.run("restore(0)=STATE restore(1)=STATE undo()=STATE fault()=0 status()=0 count(0)=0 count(5)=0");
    }

    private static void rowsOfTerms(Edges e) {
        e.terms("1 ROWS 0 .. 7 are missing (at first)");
        for (int row = 0; row < 8; row++) {
            e.run("set(R,0,0)=NULL drop(R)=NULL row(R,0,1)=1 drop(R)=1".replace("R", "" + row));
        }
        e.run("drop(-1)=BAD drop(8)=BAD");
        e.terms(", or have a LANE (0 bytes, 1 shorts, 2 ints)");
        e.run("row(0,0,1)=1 set(0,0,255)=-1 row(0,1,1)=1 set(0,0,255)=255 set(0,0,65535)=-1",
                "row(0,2,1)=1 set(0,0,65535)=65535 set(0,0,-1)=-1");
        e.terms("and 0 to 40 ITEMS, 0 at first.");
        e.run(FIXED, "row(0,0,0)=0 set(0,0,1)=PLACE row(1,1,40)=40 set(1,40,1)=PLACE", Edges.items(1, new int[40]));
        e.run(FIXED, "row(0,0,41)=BAD row(0,0,40)=40 row(1,1,1)=1 row(2,2,40)=40", Edges.items(1, 0),
                Edges.items(0, new int[40]), Edges.items(2, new int[40]));
    }

    private static void row(Edges e) {
        e.promise(2, "A ROW of a LANE with n ITEMS, in place of what is there: n.");
        e.run("row(0,0,0)=0 count(0)=1 row(0,0,40)=40 count(0)=1 set(0,39,1)=1 set(0,40,1)=PLACE");
        e.run("row(7,2,1)=1 row(0,0,1)=1 count(0)=2 set(7,0,300)=300 row(7,0,1)=1 set(7,0,300)=44 count(0)=2");
        e.run(FIXED, "0:[5,6,7] row(0,2,3)=3", Edges.items(0, 0, 0, 0));
        e.run(FIXED, "0:[5,6,7] row(0,2,1)=1 who(0,1,0,1,1)=PLACE row(0,2,3)=3", Edges.items(0, 0, 0, 0));
        e.run(FIXED, "0:[5,6,7] row(0,2,0)=0 who(0,1,0,0,1)=PLACE 0:[4]", Edges.items(0, 4));
        e.run("row(0,0,1)=1 row(1,0,1)=1 row(2,0,1)=1 row(3,0,1)=1 row(4,0,1)=1 row(5,0,1)=1 row(6,0,1)=1 count(0)=7",
                "row(7,0,1)=1 count(0)=8 row(7,0,2)=2 count(0)=8");
    }

    private static void rowRefused(Edges e) {
        e.promise(2, "BAD: ROW");
        e.run("row(-1,0,1)=BAD row(8,0,1)=BAD row(MIN,0,1)=BAD row(MAX,0,1)=BAD count(0)=0");
        e.promise(2, "LANE, n above 40;");
        e.run("0:[5,6] row(0,-1,1)=BAD row(0,3,1)=BAD row(0,MIN,1)=BAD row(0,MAX,1)=BAD");
        e.run("0:[5,6] row(0,0,41)=BAD row(0,1,41)=BAD row(0,2,41)=BAD row(0,0,MAX)=BAD row(1,0,41)=BAD count(0)=1");
        e.promise(2, "SIZE.");
        e.run("row(0,0,-1)=SIZE row(0,2,MIN)=SIZE count(0)=0 row(7,1,-1)=SIZE row(0,0,0)=0");
        e.run("0:[5,6] row(0,2,-1)=SIZE row(0,0,-40)=SIZE count(0)=1");
        e.promise(2, "BAD: ROW, LANE, n above 40; SIZE.");
        e.run("row(8,0,-1)=BAD row(-1,0,-1)=BAD row(0,3,-1)=BAD row(0,-1,-1)=BAD row(0,-1,MIN)=BAD status()=0");
    }

    private static void set(Edges e) {
        e.promise(3, "ITEM i becomes v, its lowest bits, as many as the LANE has (read with their sign): what it is "
                + "then.");
        e.run("row(0,0,1)=1 set(0,0,127)=127 set(0,0,128)=-128 set(0,0,-128)=-128 set(0,0,-129)=127 set(0,0,255)=-1",
                "set(0,0,256)=0 set(0,0,-256)=0 set(0,0,257)=1 set(0,0,MAX)=-1 set(0,0,MIN)=0 set(0,0,32768)=0");
        e.run("row(0,1,1)=1 set(0,0,32767)=32767 set(0,0,32768)=-32768 set(0,0,-32768)=-32768 set(0,0,-32769)=32767",
                "set(0,0,65535)=-1 set(0,0,65536)=0 set(0,0,65537)=1 set(0,0,MAX)=-1 set(0,0,MIN)=0 set(0,0,128)=128");
        e.run("row(0,2,1)=1 set(0,0,MAX)=MAX set(0,0,MIN)=MIN set(0,0,65536)=65536 set(0,0,-32769)=-32769");
        // it is kept as it is answered, and only there
        e.run(FIXED, "row(0,0,3)=3 set(0,0,265)=9 set(0,2,-249)=7", Edges.items(0, 9, 0, 7));
        e.run(FIXED, "row(0,1,3)=3 set(0,1,65544)=8", Edges.items(0, 0, 8, 0));
        e.run(FIXED, "row(0,2,2)=2 set(0,1,265)=265 who(0,1,0,1,1)=0", Edges.items(0, 0));
        e.run(FIXED, "row(0,0,40)=40 set(0,39,5)=5 set(0,0,4)=4 who(0,1,0,39,1)={5} who(0,1,0,38,1)={0}",
                Edges.items(0, 4, 0));
    }

    private static void setRefused(Edges e) {
        e.promise(3, "BAD: ROW;");
        e.run("set(-1,0,1)=BAD set(8,0,1)=BAD set(MIN,0,1)=BAD set(MAX,0,1)=BAD");
        e.promise(3, "NULL;");
        e.run("set(0,0,1)=NULL set(7,0,1)=NULL 0:[3] set(0,0,4)=4 drop(0)=1 set(0,0,5)=NULL");
        e.promise(3, "PLACE.");
        e.run("0:[3,4] set(0,1,5)=5 set(0,2,5)=PLACE set(0,-1,5)=PLACE set(0,MAX,5)=PLACE set(0,MIN,5)=PLACE");
        e.run("row(0,0,0)=0 set(0,0,1)=PLACE row(0,0,40)=40 set(0,40,1)=PLACE set(0,39,1)=1");
        e.promise(3, "BAD: ROW; NULL; PLACE.");
        e.run("set(8,-1,1)=BAD set(-1,40,1)=BAD set(0,-1,1)=NULL set(0,40,1)=NULL");
    }

    private static void copy(Edges e) {
        e.promise(4, "n ITEMS of a from i on come to b from j on, as they were ahead: n.");
        e.run(FIXED, "0:[1,2,3,4] 1:[9,9,9] copy(0,1,1,0,3)=3", Edges.items(1, 2, 3, 4), Edges.items(0, 1, 2, 3, 4));
        e.run(FIXED, "0:[1,2,3,4] 1:[9,9,9] copy(0,3,1,1,1)=1", Edges.items(1, 9, 4, 9));
        e.run(FIXED, "0:[1,2,3,4] 1:[9,9,9] copy(0,0,1,0,0)=0", Edges.items(1, 9, 9, 9));
        // a row to itself, upwards and downwards
        e.run(FIXED, "0:[1,2,3,4] copy(0,0,0,1,3)=3", Edges.items(0, 1, 1, 2, 3));
        e.run(FIXED, "0:[1,2,3,4] copy(0,1,0,0,3)=3", Edges.items(0, 2, 3, 4, 4));
        e.run(FIXED, "0:[1,2,3,4] copy(0,0,0,0,4)=4", Edges.items(0, 1, 2, 3, 4));
        e.run(FIXED, "row(0,1,40)=40 row(1,1,40)=40 set(0,0,3)=3 set(0,39,8)=8 copy(0,0,1,0,40)=40",
                "who(0,1,1,0,1)={3} who(0,1,1,38,1)={0} who(0,1,1,39,1)={8}");
        e.run(FIXED, "row(0,0,40)=40 set(0,0,3)=3 copy(0,0,0,39,1)=1 who(0,1,0,39,1)={3}");
    }

    private static void copyRefused(Edges e) {
        e.promise(4, "BAD: ROWS;");
        e.run("0:[1] copy(-1,0,0,0,1)=BAD copy(8,0,0,0,1)=BAD copy(0,0,-1,0,1)=BAD copy(0,0,8,0,1)=BAD");
        e.run("copy(7,0,8,0,0)=BAD copy(8,0,7,0,0)=BAD copy(MIN,0,0,0,0)=BAD copy(0,0,MAX,0,0)=BAD");
        e.promise(4, "NULL;");
        e.run("0:[1] copy(0,0,1,0,1)=NULL copy(1,0,0,0,1)=NULL copy(1,0,1,0,0)=NULL copy(0,0,7,0,0)=NULL");
        e.promise(4, "STORE;");
        e.run("row(0,0,2)=2 row(1,1,2)=2 row(2,2,2)=2 copy(0,0,1,0,1)=STORE copy(1,0,0,0,1)=STORE",
                "copy(0,0,2,0,1)=STORE copy(2,0,0,0,1)=STORE copy(1,0,2,0,1)=STORE copy(2,0,1,0,1)=STORE",
                "copy(0,0,1,0,0)=STORE row(3,1,2)=2 copy(3,0,1,0,2)=2");
        e.promise(4, "BAD: ROWS; NULL; STORE; PLACE");
        e.run("row(0,0,2)=2 row(1,1,2)=2 copy(5,-1,8,-1,-1)=BAD copy(-1,0,5,0,-1)=BAD copy(0,-1,5,0,-1)=NULL",
                "copy(5,9,1,9,9)=NULL copy(0,-1,1,0,0)=STORE copy(0,0,1,3,9)=STORE copy(0,0,1,0,-1)=STORE");
    }

    private static void copyOutOfPlace(Edges e) {
        e.promise(4, "PLACE (i, j, n below 0, or beyond an end).");
        String rows = "0:[1,2,3,4] 1:[5,6,7]";
        e.run(rows, "copy(0,-1,1,0,1)=PLACE copy(0,0,1,-1,1)=PLACE copy(0,0,1,0,-1)=PLACE copy(0,-1,1,-1,0)=PLACE");
        e.run(rows, "copy(0,MIN,1,0,1)=PLACE copy(0,0,1,MIN,1)=PLACE copy(0,0,1,0,MIN)=PLACE");
        // beyond the end of a, of b, and just not
        e.run(rows, "copy(1,0,0,0,4)=PLACE copy(1,1,0,0,3)=PLACE copy(1,3,0,0,1)=PLACE copy(1,2,0,0,1)=1");
        e.run(rows, "copy(0,0,1,0,4)=PLACE copy(0,0,1,1,3)=PLACE copy(0,0,1,3,1)=PLACE copy(0,0,1,2,1)=1");
        // of none, at an end and behind it
        e.run(rows, "copy(0,4,1,3,0)=0 copy(0,5,1,0,0)=PLACE copy(0,0,1,4,0)=PLACE");
        e.run("row(0,0,0)=0 row(1,0,0)=0 copy(0,0,1,0,0)=0 copy(0,0,1,0,1)=PLACE copy(0,1,1,0,0)=PLACE");
        // sums that would wrap around
        e.run(rows, "copy(0,MAX,1,0,MAX)=PLACE copy(0,1,1,0,MAX)=PLACE copy(0,MAX,1,0,1)=PLACE copy(0,0,1,MAX,1)=PLACE",
                "copy(0,0,1,MAX,MAX)=PLACE copy(0,MIN,1,0,MIN)=PLACE copy(0,MAX,1,MAX,MIN)=PLACE");
    }

    private static void drop(Edges e) {
        e.promise(5, "A ROW is missing from now on: how many ITEMS it had.");
        e.run("row(0,0,0)=0 row(7,1,40)=40 count(0)=2 drop(0)=0 count(0)=1 drop(7)=40 count(0)=0");
        e.run(FIXED, "0:[5,6] 1:[7] drop(0)=2 set(0,0,1)=NULL copy(1,0,0,0,1)=NULL who(0,1,0,0,1)=NULL back(0,0)=NULL",
                "row(0,2,2)=2", Edges.items(0, 0, 0), Edges.items(1, 7));
        e.promise(5, "BAD;");
        e.run("0:[5] drop(-1)=BAD drop(8)=BAD drop(MIN)=BAD drop(MAX)=BAD count(0)=1");
        e.promise(5, "NULL.");
        e.run("drop(0)=NULL drop(7)=NULL 0:[5] drop(0)=1 drop(0)=NULL");
    }
}
