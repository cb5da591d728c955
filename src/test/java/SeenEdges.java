/** The bounds of what is seen, of the book, the seed, images, and of promises 22 to 29. */
final class SeenEdges {
    private static final String HILL = SchoolEdges.HILL;
    private static final String MOST = SchoolEdges.MOST;

    private final Edges e;

    SeenEdges(Edges edges) {
        e = edges;
    }

    void runAll() {
        seen();
        book();
        images();
        see();
        hold();
        write();
        tear();
        judge();
        seed();
        keep();
        goBack();
    }

    private void seen() {
        e.says("section 3", "SEEN (6 at most): of a CHILD's TABLE it is known whose DEED lay there, or not.", 22, 23);
        e.run("tell <" + HILL + ">, 4 x see 0 0 false, see 1 1 false = 5, see 2 2 false = 6, see 2 2 false = FULL, told 11 = 6, hold = 1, doIt 4, home, hold = 0, tear = 6, see 2 2 true = 1, hold = 1");
        // The sixth counts, too.
        e.run("tell <" + HILL + ">, 5 x see 0 0 false, hold = 1, see 0 0 true = 6, hold = 0, see 0 0 false = FULL, hold = 0");
        e.says("section 3", "HOLD: whether all SEEN is so now (1, 0).", 23);
        e.run("tell <" + HILL + ">, hold = 1, see 0 0 true, hold = 0, doIt 0, hold = 0, home, hold = 1, doIt 1, home, hold = 1, takeBack 0, hold = 1, takeBack 1, hold = 0, undo, hold = 1");
        e.run("tell <" + HILL + ">, see 2 0 false, see 0 2 false, doIt 0, doIt 5, home, hold = 1, takeBack 0, doIt 0, carry 0 2, hold = 1, home, hold = 0, takeBack 0, hold = 1, takeBack 5, doIt 5, carry 5 0, home, hold = 0");
        e.run("tell <" + HILL + ">, see 0 0 false, see 0 0 true, hold = 0, doIt 0, home, hold = 0");
        e.run("tell <" + HILL + ">, see 0 0 true, see 1 1 true, doIt 0, home, hold = 0, doIt 2, home, hold = 1, takeBack 0, hold = 0");
        // What lies in the brook lies on no table.
        e.run("tell <" + HILL + ">, doIt 0, throwIt 0, home, see 0 0 false, hold = 1");
        e.run("tell <" + MOST + ">, doIt 6, carry 6 0, home, see 0 4 true, see 4 4 false, see 0 0 false, hold = 1");
    }

    private void book() {
        e.says("section 3", "THE BOOK (15 at most) tells LOADS: WRONG: the first that is otherwise now; NONE.", 24, 26);
        e.run("tell <" + HILL + ">, judge = NONE, 14 x write 0 0, judge = NONE, write 0 1 = 15, judge = 14, write 0 1 = FULL, judge = 14, doIt 0, judge = 0, tear = 15, judge = NONE");
        e.run("tell <" + HILL + ">, write 0 12, write 1 0, write 0 32, write 0 12, judge = 0, doIt 0, judge = 2, doIt 1, judge = 0, home, judge = 0, tear, write 0 0, write 2 0, judge = NONE, doIt 5, judge = 1, undo, judge = NONE");
        e.run("tell <" + MOST + ">, doIt 0, doIt 1, doIt 2, carry 2 0, doIt 3, carry 3 0, doIt 4, carry 4 0, doIt 5, carry 5 0, doIt 6, carry 6 0, write 0 693, judge = NONE, write 0 692, judge = 1");
    }

    private void images() {
        String lived = "tell <b99;c1 1;c9 1;d0 2;d1 9;d1 1;d1 3;>, doIt 0, home, doIt 1, throwIt 1, doIt 2, carry 2 0, seed 41,";
        String asKept = "told 4 = 1, told 5 = 9, told 6 = 9, told 8 = 1, child 0 6 = 1, deed 0 2 = 3, deed 0 3 = 0, deed 1 2 = 2, deed 1 3 = NONE, deed 2 2 = 1, deed 2 3 = 0, deed 3 2 = 0, seed 43 = 41, told 13 = 0,";
        e.says("section 3", "IMAGES 0, 1 keep all of section 2, THE SEED.", 28, 29);
        e.run(lived + "keep 0 = 1, takeBack 0, doIt 3, home, drift 60, seed 42, goBack 0 = 1," + asKept);
        e.run(lived + "keep 1 = 1, home, home, seed 42, goBack 1 = 1," + asKept);
        e.run(lived + "keep 0, home, keep 1, goBack 0," + asKept + "goBack 1, told 4 = 2, seed 0 = 41, goBack 0," + asKept);
        // What is no part of section 2 stays as it is now.
        e.run("tell <" + HILL + ">, keep 0, see 0 0 true, write 0 5, feed 98, goBack 0, told 11 = 1, told 12 = 1, told 3 = 1, judge = 0, hold = 0");
        e.run("tell <" + HILL + ">, see 0 0 true, write 0 5, keep 0, tear, goBack 0, told 11 = 0, told 12 = 0");
        e.run("seed 5, keep 0 = 1, seed 6, goBack 0 = 1, seed 0 = 5, goBack 1 = NOT, goBack 2 = UNKNOWN, keep 2 = UNKNOWN, keep -1 = UNKNOWN");
    }

    private void see() {
        e.says("22", "SEEN: on the TABLE of c lay a DEED of e (is), or none: how much.");
        e.run("tell <" + HILL + ">, see 0 1 true = 1, see 1 0 false = 2, told 11 = 2, doIt 2, carry 2 0, home, hold = 1");
        e.run("tell <" + HILL + ">, see 1 0 true, doIt 2, carry 2 0, home, hold = 0");
        e.run("tell <" + MOST + ">, see 4 0 true = 1, see 0 4 false = 2, doIt 0, carry 0 4, home, hold = 1");
        e.says("22", "UNKNOWN (c and e may be alike), FULL (6).");
        e.run("see 0 0 true = UNKNOWN, tell <" + HILL + ">, see 3 0 true = UNKNOWN, see 0 3 true = UNKNOWN, see -1 0 false = UNKNOWN, see 0 -1 false = UNKNOWN, see 3 3 true = UNKNOWN, see MAX 0 true = UNKNOWN, see 0 MIN true = UNKNOWN",
            "see 2 2 false = 1, see 2 2 false = 2, see 0 0 false = 3, see 1 1 false = 4, see 0 1 false = 5, see 0 2 false = 6, see 0 2 false = FULL, see 1 1 true = FULL, see 3 0 true = UNKNOWN, told 11 = 6, hold = 1, tear = 6, see 0 0 true = 1");
    }

    private void hold() {
        e.says("23", "HOLD.");
        e.run("hold = 1, tell <" + HILL + ">, hold = 1, see 0 0 false, hold = 1, see 0 0 true, hold = 0, tear, hold = 1");
    }

    private void write() {
        e.says("24", "An entry behind THE BOOK (0 .. 999): how many.");
        e.run("tell <" + HILL + ">, write 0 0 = 1, write 0 1 = 2, write 2 998 = 3, write 2 999 = 4, told 12 = 4, judge = 1");
        e.says("24", "UNKNOWN, OUTSIDE, FULL (15).");
        e.run("write 0 0 = UNKNOWN, write 0 1000 = UNKNOWN, tell <" + HILL + ">, write 3 0 = UNKNOWN, write -1 0 = UNKNOWN, write MAX 0 = UNKNOWN, write MIN 0 = UNKNOWN, write 3 1000 = UNKNOWN",
            "write 0 -1 = OUTSIDE, write 0 1000 = OUTSIDE, write 0 MAX = OUTSIDE, write 0 MIN = OUTSIDE, told 12 = 0, 13 x write 0 0, write 0 0 = 14, write 0 0 = 15, write 0 0 = FULL, write 0 1000 = OUTSIDE, write 0 -1 = OUTSIDE, write 3 0 = UNKNOWN, told 12 = 15");
    }

    private void tear() {
        e.says("25", "Nothing SEEN, THE BOOK is empty: how much both had.");
        e.run("tear = 0, tell <" + HILL + ">, tear = 0, see 0 0 true, tear = 1, told 11 = 0, write 0 0, tear = 1, told 12 = 0, 6 x see 0 0 true, 15 x write 0 5, tear = 21, told 11 = 0, told 12 = 0, hold = 1, judge = NONE, see 0 0 false = 1, write 0 0 = 1, hold = 1, judge = NONE");
        e.run("tell <" + HILL + ">, doIt 0, see 0 0 true, tear = 1, told 13 = 1, undo = 0");
    }

    private void judge() {
        e.says("26", "WRONG; NONE.");
        e.run("judge = NONE, tell <" + HILL + ">, judge = NONE, write 0 1, judge = 0, tear, write 0 0, judge = NONE, write 1 9, judge = 1, doIt 2, judge = NONE");
    }

    private void seed() {
        e.says("27", "THE SEED becomes v (0 .. 2147483647): what it was.");
        e.run("seed 0 = 0, seed 1 = 0, seed 2147483646 = 1, seed 2147483647 = 2147483646, seed 0 = 2147483647, seed 0 = 0");
        e.says("27", "OUTSIDE.");
        e.run("seed -1 = OUTSIDE, seed MIN = OUTSIDE, seed 9 = 0, seed -1 = OUTSIDE, seed 0 = 9");
    }

    private void keep() {
        e.says("28", "IMAGE i becomes what is so (nothing can be undone then): 1.");
        e.run("tell <" + HILL + ">, doIt 0, doIt 1, told 13 = 2, keep 0 = 1, told 13 = 0, undo = NOT, child 0 2 = 32, home, told 13 = 1, keep 0 = 1, undo = NOT, goBack 0 = 1, told 4 = 1");
        e.run("tell <" + HILL + ">, 25 x home, keep 1 = 1, told 13 = 0, undo = NOT, home, told 13 = 1, undo = 0, told 4 = 25");
        // An image that is kept anew is the new one; the other stays.
        e.run("tell <" + HILL + ">, keep 0, keep 1, home, keep 0, home, goBack 0, told 4 = 1, goBack 1, told 4 = 0");
        e.says("28", "UNKNOWN.");
        e.run("keep 2 = UNKNOWN, keep -1 = UNKNOWN, keep MAX = UNKNOWN, keep MIN = UNKNOWN, tell <" + HILL + ">, doIt 0, keep 2 = UNKNOWN, keep -1 = UNKNOWN, told 13 = 1, goBack 0 = NOT, goBack 1 = NOT");
    }

    private void goBack() {
        e.says("29", "What is so becomes IMAGE i (nothing can be undone then): 1.");
        e.run("tell <" + HILL + ">, doIt 0, keep 0, home, home, told 13 = 2, goBack 0 = 1, told 13 = 0, undo = NOT, told 4 = 0, deed 0 2 = 1, home, told 13 = 1, undo = 0, undo = NOT, deed 0 2 = 1");
        // The image stays: what is done behind goBack() does not come into it.
        e.run("tell <" + HILL + ">, doIt 0, keep 1, goBack 1, home, takeBack 0, seed 9, goBack 1 = 1, told 4 = 0, deed 0 2 = 1, deed 0 3 = 0, seed 0 = 0, goBack 1 = 1, told 4 = 0");
        e.says("29", "UNKNOWN, NOT: it was not kept.");
        e.run("goBack 0 = NOT, goBack 1 = NOT, goBack 2 = UNKNOWN, goBack -1 = UNKNOWN, goBack MAX = UNKNOWN, goBack MIN = UNKNOWN, tell <" + HILL + ">, doIt 0, goBack 0 = NOT, goBack 1 = NOT, keep 0, doIt 1, goBack 1 = NOT, goBack 2 = UNKNOWN, told 13 = 1, goBack 0 = 1, goBack 1 = NOT");
        e.run("tell <" + HILL + ">, keep 0, keep 1, tell <x> = -11, goBack 0 = 1, goBack 1 = 1, tell <" + HILL + ">, goBack 0 = NOT, goBack 1 = NOT");
    }
}
