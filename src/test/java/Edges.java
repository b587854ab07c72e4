/** What the tests of edges share: each says of which promise and of which sentence it is, and is a script. */
final class Edges {
    private final Due due = new Due();
    private final Doc doc = new Doc();

    /** The scripts that follow are of this sentence of a promise. */
    void promise(int number, String words) {
        due.part("promise " + number + ", '" + words + "'");
        due.holds("the document says so", doc.quote(number, words));
    }

    /** The scripts that follow are of this sentence of the terms. */
    void terms(String words) {
        due.part("terms, '" + words + "'");
        due.holds("the document says so", doc.quote(Doc.TERMS, words));
    }

    void run(String... elements) {
        new Script(String.join(" ", elements)).check(due);
    }

    void is(String what, long got, long want) {
        due.is(what, got, want);
    }

    /** Ends the program, with exit code 1, if an answer was not as due, or a word of the document has no test. */
    void end() {
        due.part("the document");
        due.is("its promises", doc.promises(), 38);
        for (String words : doc.untested()) {
            due.holds("there is a test of promise " + words, false);
        }
        due.end();
    }

    // ---- elements of scripts

    /** A polygon of plain corners, and cuts as a text tells them. */
    static String plain(int n, String cuts) {
        return "<" + "p0;".repeat(n) + cuts + ">=" + n;
    }

    static String plain(int n) {
        return plain(n, "");
    }

    /** So many cuts from corner 0, the first to corner 2. */
    static String fan(int many) {
        StringBuilder cuts = new StringBuilder();
        for (int b = 2; b < 2 + many; b++) {
            cuts.append("d0,").append(b).append(';');
        }
        return cuts.toString();
    }

    /** The items of a row from 0 on are these, each 0 to 9; corner 0 must be a fixed one. */
    static String items(int row, int... due) {
        StringBuilder text = new StringBuilder();
        for (int i = 0; i < due.length; i++) {
            text.append("who(0,1,").append(row).append(',').append(i).append(",1)={").append(due[i]).append("} ");
        }
        return text.toString();
    }

    /** A cut can be between two corners of a ring. */
    static boolean canBe(int n, int a, int b) {
        int apart = Math.abs(a - b);
        return Math.min(a, b) >= 0 && Math.max(a, b) < n && apart >= 2 && apart <= n - 2;
    }
}
