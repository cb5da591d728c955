/** The bounds of section 2, of draws and of what is undone, and of promises 8 to 15. */
final class DoneEdges {
    private static final String HILL = SchoolEdges.HILL;
    private static final String MOST = SchoolEdges.MOST;
    /** One deed alone: a draw of deeds is 0 always, so the second draw tells what comes. */
    private static final String LONE = "b3;c1 1;c9 1;c9 1;d1 3;";
    private static final String DRAWS_DONE = "seed 0, drift 1,";
    private static final String DRAWS_CARRIED = "seed 1, drift 1,";
    private static final String DRAWS_THROWN = "seed 2, drift 1,";
    private static final String DRAWS_HOME = "seed 3, drift 1,";

    private final Edges e;

    DoneEdges(Edges edges) {
        e = edges;
    }

    void runAll() {
        whatADeedIs();
        lamed();
        carriedAndSwapped();
        thrown();
        goneHome();
        minutes();
        byDraws();
        undone();
        doIt();
        carry();
        swap();
        throwIt();
        home();
        takeBack();
        drift();
        undo();
    }

    /** Deed 0 as it is told, and deed 2 in the satchel of child 1 beside it: what can be, and what can not. */
    private void whatADeedIs() {
        String beside = "tell <" + HILL + ">, doIt 2,";
        e.says("section 2", "A DEED is 0 not DONE (at first), 1 in a satchel, 2 in the BROOK, 3 on a TABLE.", 7, 8, 9, 10, 11, 13);
        e.run(beside + "deed 0 2 = 0, deed 0 3 = NONE, carry 0 1 = NOT, carry 0 0 = NOT, swap 0 2 = NOT, swap 2 0 = NOT, throwIt 0 = NOT, takeBack 0 = NOT, doIt 0 = 12");
        e.run(beside + "doIt 0, deed 0 2 = 1, deed 0 3 = 0, doIt 0 = NOT, takeBack 0 = NOT, carry 0 0 = NOT, carry 0 2 = 12, swap 0 2 = 1, throwIt 0 = 12");
        e.run(beside + "doIt 0, throwIt 0, deed 0 2 = 2, deed 0 3 = NONE, doIt 0 = NOT, carry 0 1 = NOT, carry 0 0 = NOT, swap 0 2 = NOT, swap 2 0 = NOT, throwIt 0 = NOT, takeBack 0 = NOT");
        e.run("tell <" + HILL + ">, doIt 0, home, doIt 2, deed 0 2 = 3, deed 0 3 = 0, doIt 0 = NOT, carry 0 1 = NOT, carry 0 0 = NOT, swap 0 2 = NOT, swap 2 0 = NOT, throwIt 0 = NOT, takeBack 0 = 0");
        e.run("tell <" + MOST + ">, deed 0 2 = 0, deed 1 2 = 0, deed 2 2 = 0, deed 3 2 = 0, deed 4 2 = 0, deed 5 2 = 0, deed 6 2 = 0, deed 6 3 = NONE");
        // Seven deeds and no eighth, wherever the first one is.
        for (int c = 1; c < 5; c++) {
            e.run("tell <" + MOST + ">, doIt 0, carry 0 " + c + ", child 0 4 = 0, child 0 5 = 0, see 0 0 false, hold = 1, doIt 6, lighter NONE = 0",
                "home, deed 0 3 = " + c + ", child 0 4 = 0, child 0 5 = 0, hold = 1");
        }
        e.says("section 2", "DONE: it is in the satchel of its CHILD.", 7, 8);
        e.run("tell <" + HILL + ">, doIt 5, deed 5 2 = 1, deed 5 3 = 2, carry 5 0, home, takeBack 5 = 0, doIt 5 = 3, deed 5 3 = 2");
    }

    private void lamed() {
        e.says("section 2", "LOAD of a CHILD: WEIGHT of all in its satchel.", 6, 8, 9);
        e.run("tell <" + MOST + ">, child 0 2 = 0, doIt 0 = 99, doIt 1 = 198, child 0 2 = 198, doIt 2, carry 2 0 = 297, doIt 3, carry 3 0, doIt 4, carry 4 0, doIt 5, carry 5 0, doIt 6, carry 6 0 = 693",
            "child 0 2 = 693, child 4 2 = 0, throwIt 0, child 0 2 = 594, home, child 0 2 = 0");
        e.says("section 2", "LAMED: whose LOAD is above STRONG.", 5, 12);
        e.run("tell <b9;c10 1;d0 9;d0 1;d0 1;>, told 7 = 0, doIt 0, told 7 = 0, doIt 1, child 0 2 = 10, told 7 = 0, doIt 2, child 0 2 = 11, told 7 = 1, home = 1");
        e.run("tell <b9;c10 1;d0 9;d0 1;d0 1;>, doIt 0, doIt 1, home = 0, child 0 6 = 0");
        e.run("tell <b0;c99 1;d0 99;d0 1;>, doIt 0, told 7 = 0, doIt 1, told 7 = 1");
    }

    private void carriedAndSwapped() {
        e.says("section 2", "CARRIED: a DEED goes from one satchel to another one.", 9);
        e.run("tell <" + HILL + ">, doIt 0, carry 0 0 = NOT, carry 0 2 = 12, child 0 4 = 0, child 2 4 = 1, carry 0 2 = NOT, carry 0 1 = 12, carry 0 0 = 12, child 0 4 = 1");
        e.run("tell <b9;c9 1;d0 1;>, doIt 0, carry 0 0 = NOT, carry 0 1 = UNKNOWN");
        e.says("section 2", "SWAPPED: two DEEDS in unlike satchels change places.", 10);
        e.run("tell <" + MOST + ">, doIt 0, doIt 6, swap 0 6 = 1, deed 0 3 = 4, deed 6 3 = 0, deed 0 2 = 1, deed 6 2 = 1, swap 6 0 = 1, deed 0 3 = 0, deed 6 3 = 4");
        e.run("tell <" + HILL + ">, doIt 0, doIt 1, doIt 2, swap 0 1 = NOT, carry 2 0, swap 0 2 = NOT, carry 0 2, swap 0 2 = 1, deed 0 3 = 0, deed 2 3 = 2, told 9 = 4");
    }

    private void thrown() {
        e.says("section 2", "THROWN: from a satchel into the BROOK, if it takes no more than B this day with it.", 5, 11);
        e.run("tell <b10;c99 1;d0 9;d0 1;d0 1;>, doIt 0, doIt 1, doIt 2, throwIt 0 = 9, throwIt 1 = 10, throwIt 2 = NOT, told 5 = 10, deed 2 2 = 1");
        e.run("tell <b10;c99 1;d0 10;>, doIt 0, throwIt 0 = 10");
        e.run("tell <b10;c99 1;d0 11;>, doIt 0, throwIt 0 = NOT, told 5 = 0, told 6 = 0");
        e.run("tell <b10;c99 1;d0 9;>, doIt 0, throwIt 0 = 9");
        e.run("tell <b0;c99 1;d0 1;>, doIt 0, throwIt 0 = NOT");
        e.run("tell <b1;c99 1;d0 1;d0 1;>, doIt 0, doIt 1, throwIt 1 = 1, throwIt 0 = NOT, home, takeBack 0, doIt 0, throwIt 0 = 1, told 6 = 2");
        e.run("tell <b693;c99 1;d0 99;d0 99;d0 99;d0 99;d0 99;d0 99;d0 99;>, doIt 0, doIt 1, doIt 2, doIt 3, doIt 4, doIt 5, doIt 6",
            "throwIt 0, throwIt 1, throwIt 2, throwIt 3, throwIt 4, throwIt 5 = 594, throwIt 6 = 693, child 0 2 = 0");
        e.run("tell <b692;c99 1;d0 99;d0 99;d0 99;d0 99;d0 99;d0 99;d0 99;>, doIt 0, doIt 1, doIt 2, doIt 3, doIt 4, doIt 5, doIt 6",
            "throwIt 0, throwIt 1, throwIt 2, throwIt 3, throwIt 4, throwIt 5 = 594, throwIt 6 = NOT, child 0 2 = 99");
    }

    private void goneHome() {
        e.says("section 2", "HOME: all satchels are emptied, each on its CHILD's TABLE; a day passes (the BROOK takes anew);", 6, 7, 12);
        e.run("tell <" + MOST + ">, doIt 0, doIt 1, doIt 2, doIt 3, doIt 4, doIt 5, doIt 6, carry 0 4, throwIt 3 = 99, home = 16, told 4 = 1, told 5 = 0, told 6 = 99",
            "child 0 4 = 0, child 1 4 = 0, child 2 4 = 0, child 3 4 = 0, child 4 4 = 0, child 0 5 = 2, child 1 5 = 4, child 2 5 = 0, child 3 5 = 16, child 4 5 = 97, deed 3 2 = 2");
        e.run("tell <" + HILL + ">, doIt 0, home, doIt 1, home, child 0 5 = 3, home = 0, child 0 5 = 3, told 4 = 3");
        e.run("tell <" + HILL + ">, doIt 0, doIt 3, throwIt 0, throwIt 3 = 20, doIt 5, throwIt 5 = NOT, home, takeBack 5, doIt 5, throwIt 5 = 3, told 5 = 3, told 6 = 23");
        e.says("section 2", "days on which a CHILD was LAMED as it went HOME are counted.", 5, 6, 12);
        e.run("tell <b99;c1 1;c9 1;d0 2;d1 9;>, doIt 0, told 7 = 1, child 0 6 = 0, throwIt 0, home = 0, child 0 6 = 0, told 8 = 0",
            "doIt 1, carry 1 0, home = 1, child 0 6 = 1, child 1 6 = 0, takeBack 1, home = 0, child 0 6 = 1, doIt 1, home = 0, takeBack 1, doIt 1, carry 1 0, home = 1, child 0 6 = 2, told 8 = 2, told 4 = 5");
        e.says("section 2", "TAKEN BACK: a DEED on a TABLE is not DONE.", 7, 13);
        e.run("tell <" + HILL + ">, doIt 0, carry 0 2, home, child 2 5 = 1, takeBack 0 = 2, deed 0 2 = 0, deed 0 3 = NONE, child 2 5 = 0, doIt 0 = 12, deed 0 3 = 0");
    }

    private void minutes() {
        e.says("section 2", "MINUTES home of a CHILD: M, and M times LOAD / STRONG (cut).", 5, 6);
        e.run("tell <b9;c10 7;d0 1;d0 1;d0 8;d0 1;>, child 0 3 = 7, doIt 0, child 0 3 = 7, doIt 1, child 0 3 = 8, doIt 2, child 0 2 = 10, child 0 3 = 14, doIt 3, child 0 3 = 14, home, child 0 3 = 7");
        e.run("tell <b9;c1 99;d0 99;d0 99;d0 99;d0 99;d0 99;d0 99;d0 99;>, doIt 0, doIt 1, doIt 2, doIt 3, doIt 4, doIt 5, doIt 6, child 0 2 = 693, child 0 3 = 68706");
        e.run("tell <b9;c99 1;d0 98;d0 1;>, doIt 0, child 0 3 = 1, doIt 1, child 0 3 = 2");
    }

    private void byDraws() {
        e.says("section 3", "BY DRAWS: THE SEED (0 at first: each DRAW it becomes it times 1103515245 and 12345, left over by 2 to the 31;", 14, 27);
        e.run("seed 0 = 0");
        // Two draws from 0: 12345, then 12345 * 1103515245 + 12345 left over by 2147483648.
        e.run("tell <" + LONE + ">, drift 1, seed 0 = 1406932606");
        e.run("tell <" + LONE + ">, drift 60, seed 0 = 2120877416");
        // The greatest one: 1043980748 comes first.
        e.run("tell <" + LONE + ">, seed 2147483647, drift 1, seed 0 = 288979989");
        e.says("section 3", "the DRAW of n is it / 65536, left over by n):", 14);
        // From 0 with seven deeds: 0 then 0; 6 then 1; 5 then 3.
        e.run("tell <" + MOST + ">, drift 1 = 0, child 0 4 = 1, undo, seed 0, doIt 6, drift 2 = 0, deed 0 2 = 1, deed 6 2 = 2, seed 0, undo, undo, doIt 5, drift 3 = 1, seed 0 = 1109335178");
        // From 2147483647 with seven deeds: 4 then 1; 6 then 2; 5 then 2; 1 then 3.
        e.run("tell <" + MOST + ">, doIt 4, doIt 5, doIt 6, seed MAX, drift 3 = 0, deed 4 2 = 2, deed 6 3 = 0, deed 5 3 = 0, drift 1 = 1, child 0 5 = 96, child 4 5 = 0");
        e.says("section 3", "n times, if there are DEEDS: a DRAW of DEEDS, of 4:", 14);
        e.run("tell <b5;c1 1;>, seed 5, drift 1 = 0, drift 60 = 0, seed 0 = 5, told 13 = 2");
        e.run("tell <b5;>, drift 60 = 0, seed 0 = 0");
        e.run("tell <" + LONE + ">, seed 0, drift 1, seed 0 = 1406932606, drift 2, seed 0 = 1449466924");
        e.says("section 3", "on 0 it is DONE, on 1 THROWN, on 2 CARRIED by the next CHILD (the last: the first), if these can be; on 3 HOME.", 14);
        e.run("tell <" + LONE + ">," + DRAWS_DONE, "deed 0 2 = 1, deed 0 3 = 1, told 4 = 0," + DRAWS_DONE, "deed 0 2 = 1, deed 0 3 = 1," + DRAWS_HOME,
            "deed 0 2 = 3, told 4 = 1," + DRAWS_DONE, "deed 0 2 = 3, told 13 = 4");
        e.run("tell <" + LONE + ">," + DRAWS_THROWN, "deed 0 2 = 0, told 13 = 1, doIt 0," + DRAWS_THROWN, "deed 0 2 = 2, told 5 = 3, told 6 = 3," + DRAWS_THROWN, "told 5 = 3," + DRAWS_HOME, "deed 0 2 = 2, told 5 = 0, told 6 = 3");
        e.run("tell <b2;c1 1;c9 1;d1 3;>, doIt 0," + DRAWS_THROWN, "deed 0 2 = 1, deed 0 3 = 1, told 5 = 0, told 13 = 2");
        e.run("tell <" + LONE + ">, doIt 0, home," + DRAWS_THROWN, "deed 0 2 = 3, told 6 = 0," + DRAWS_CARRIED, "deed 0 2 = 3, deed 0 3 = 1");
        e.run("tell <" + LONE + ">," + DRAWS_CARRIED, "deed 0 2 = 0, deed 0 3 = NONE, doIt 0," + DRAWS_CARRIED, "deed 0 3 = 2," + DRAWS_CARRIED, "deed 0 3 = 0," + DRAWS_CARRIED, "deed 0 3 = 1");
        e.run("tell <b3;c9 1;d0 3;>, doIt 0," + DRAWS_CARRIED, "deed 0 2 = 1, deed 0 3 = 0, told 13 = 2");
        e.run("tell <" + LONE + ">, doIt 0, carry 0 0," + DRAWS_HOME, "told 4 = 1, child 0 5 = 1, child 0 6 = 1, child 1 6 = 0," + DRAWS_HOME, "told 4 = 2, told 8 = 1");
        e.run("tell <" + LONE + ">, doIt 0, throwIt 0," + DRAWS_CARRIED, "deed 0 2 = 2, deed 0 3 = NONE");
    }

    private void undone() {
        e.says("section 3", "UNDONE: the latest of doIt(), carry(), swap(), throwIt(), home(), takeBack(), drift() that was not refused", 15);
        e.run("tell <" + HILL + ">, undo = NOT, doIt 0, told 13 = 1, doIt 2, carry 0 2, told 13 = 3, swap 0 2, told 13 = 4, throwIt 0, told 13 = 5, home, told 13 = 6, takeBack 2, told 13 = 7, drift 3, told 13 = 8",
            "undo = 7, told 4 = 1, deed 2 2 = 0, undo = 6, deed 2 2 = 3, deed 2 3 = 2, undo = 5, told 4 = 0, told 5 = 12, deed 2 2 = 1, undo = 4, told 5 = 0, told 6 = 0, deed 0 3 = 1",
            "undo = 3, deed 0 3 = 2, deed 2 3 = 1, undo = 2, deed 0 3 = 0, undo = 1, deed 2 2 = 0, undo = 0, deed 0 2 = 0, undo = NOT");
        e.run("tell <" + HILL + ">, doIt 0, doIt 0 = NOT, doIt 9 = UNKNOWN, carry 0 0 = NOT, swap 0 1 = NOT, throwIt 1 = NOT, takeBack 0 = NOT, drift 0 = OUTSIDE, told 13 = 1, undo = 0, deed 0 2 = 0");
        e.run("tell <" + HILL + ">, doIt 0, see 0 0 true, write 0 0, tear, seed 5, feed 98, loads NONE, fair NONE, lighter NONE, weighs 20 0, told 13 = 1");
        e.says("section 3", "(20 at most are kept, the oldest are lost):", 5, 15);
        e.run("tell <" + HILL + ">, 19 x home, told 13 = 19, doIt 0, told 13 = 20, undo = 19, 19 x undo, undo = NOT, told 4 = 0");
        e.run("tell <" + HILL + ">, 20 x home, told 13 = 20, undo = 19, 19 x undo, undo = NOT, told 4 = 0");
        e.run("tell <" + HILL + ">, doIt 0, 20 x home, told 13 = 20, 20 x undo, undo = NOT, told 4 = 0, deed 0 2 = 1");
        e.run("tell <" + HILL + ">, 100 x home, told 13 = 20, undo = 19, told 4 = 99, 18 x undo, told 4 = 81, undo = 0, told 4 = 80, undo = NOT, home, told 13 = 1, undo = 0, told 4 = 80, undo = NOT");
        e.run("tell <" + HILL + ">, 25 x home, 10 x undo, told 4 = 15, told 13 = 10, 15 x home, told 13 = 20, told 4 = 30, 20 x undo, told 4 = 10, undo = NOT");
        e.says("section 3", "all of section 2 is as ahead of it; THE SEED stays.", 14, 15);
        e.run("tell <b99;c1 1;c9 1;d0 2;d1 9;d1 1;>, doIt 0, doIt 1, throwIt 1, home = 1, doIt 2, throwIt 2 = 1, home = 0, told 4 = 2, told 8 = 1, undo, told 4 = 1, told 5 = 1, told 6 = 10",
            "undo, told 5 = 0, told 6 = 9, undo, undo, told 4 = 0, told 5 = 9, told 6 = 9, told 8 = 0, child 0 6 = 0, deed 0 2 = 1, deed 1 2 = 2");
        e.run("tell <" + LONE + ">, drift 1, undo = 0, deed 0 2 = 0, seed 0 = 1406932606");
        e.run("tell <" + LONE + ">, seed 5, doIt 0, seed 6, undo = 0, seed 0 = 6");
        e.run("tell <" + LONE + ">, doIt 0, see 0 1 false, write 1 3, feed 98, undo = 0, told 11 = 1, told 12 = 1, told 3 = 1, judge = 0, hold = 1");
    }

    private void doIt() {
        e.says("8", "DONE: LOAD of its CHILD.");
        e.run("tell <" + HILL + ">, doIt 2 = 9, doIt 0 = 12, doIt 1 = 32, doIt 3 = 17, carry 3 0 = 40, doIt 5 = 3, carry 0 2 = 15, doIt 4 = 40");
        e.run("tell <b0;c1 1;d0 1;>, doIt 0 = 1");
        e.run("tell <" + MOST + ">, doIt 6 = 99, doIt 5 = 198, doIt 0 = 99");
        e.says("8", "UNKNOWN, NOT: it is DONE.");
        e.run("tell <" + HILL + ">, doIt 6 = UNKNOWN, doIt -1 = UNKNOWN, doIt 7 = UNKNOWN, doIt MAX = UNKNOWN, doIt MIN = UNKNOWN, doIt 5 = 3, doIt 5 = NOT, home, doIt 5 = NOT, takeBack 5, doIt 5 = 3, throwIt 5, doIt 5 = NOT");
        e.run("tell <" + MOST + ">, doIt 7 = UNKNOWN, doIt 6 = 99, doIt 6 = NOT");
    }

    private void carry() {
        e.says("9", "CARRIED by a CHILD: its LOAD.");
        e.run("tell <" + MOST + ">, doIt 0, carry 0 4 = 99, doIt 5 = 198, carry 5 0 = 99, carry 0 0 = 198, child 4 2 = 0");
        e.says("9", "UNKNOWN, NOT: it is in no satchel, in that one.");
        e.run("tell <" + HILL + ">, carry 0 1 = NOT, carry 0 3 = UNKNOWN, carry 6 0 = UNKNOWN, doIt 0, carry 0 3 = UNKNOWN, carry 0 -1 = UNKNOWN, carry -1 0 = UNKNOWN, carry 6 3 = UNKNOWN, carry 0 0 = NOT, carry 0 1 = 12, carry 0 1 = NOT",
            "home, carry 0 0 = NOT, carry 0 1 = NOT, takeBack 0, carry 0 1 = NOT, doIt 0, throwIt 0, carry 0 1 = NOT, carry 0 3 = UNKNOWN");
    }

    private void swap() {
        e.says("10", "SWAPPED: 1.");
        e.run("tell <" + HILL + ">, doIt 0, doIt 5, swap 0 5 = 1, child 0 2 = 3, child 2 2 = 12, swap 0 5 = 1, child 0 2 = 12, child 2 2 = 3, told 13 = 4");
        e.says("10", "UNKNOWN, NOT: they are not in unlike satchels.");
        e.run("tell <" + HILL + ">, swap 0 2 = NOT, swap 0 0 = UNKNOWN, swap 0 6 = UNKNOWN, swap 6 0 = UNKNOWN, swap -1 0 = UNKNOWN, swap 0 -1 = UNKNOWN, swap 6 6 = UNKNOWN, doIt 0, swap 0 2 = NOT, swap 2 0 = NOT",
            "doIt 1, swap 0 1 = NOT, swap 1 0 = NOT, doIt 2, swap 0 0 = UNKNOWN, home, swap 0 2 = NOT, takeBack 0, takeBack 2, doIt 0, doIt 5, throwIt 0, swap 0 5 = NOT, throwIt 5, swap 0 5 = NOT");
    }

    private void throwIt() {
        e.says("11", "THROWN: what the BROOK took this day.");
        e.run("tell <" + HILL + ">, doIt 0, doIt 3, doIt 5, throwIt 5 = 3, throwIt 0 = 15, home, takeBack 3, doIt 3, throwIt 3 = 8, undo, undo, undo, undo, told 5 = 15");
        e.says("11", "UNKNOWN, NOT: it is in no satchel, the BROOK does not take it.");
        e.run("tell <" + HILL + ">, throwIt 0 = NOT, throwIt 6 = UNKNOWN, throwIt -1 = UNKNOWN, throwIt MAX = UNKNOWN, throwIt MIN = UNKNOWN, doIt 4, throwIt 4 = NOT, doIt 1, throwIt 1 = 20, throwIt 1 = NOT, doIt 5, throwIt 5 = NOT, home, throwIt 5 = NOT, throwIt 1 = NOT");
        e.run("tell <" + MOST + ">, throwIt 7 = UNKNOWN, doIt 6, throwIt 6 = 99");
    }

    private void home() {
        e.says("12", "HOME: who was LAMED (a SET).");
        e.run("tell <" + HILL + ">, home = 0, doIt 0, doIt 1, home = 1, home = 0, doIt 2, doIt 3, doIt 4, home = 2, told 4 = 4");
        e.run("tell <b0;c1 1;c1 1;c1 1;c1 1;c1 1;d0 2;d1 2;d2 2;d3 2;d4 2;>, doIt 0, doIt 1, doIt 2, doIt 3, doIt 4, home = 31, told 8 = 5");
        e.run("tell <b0;>, home = 0, told 4 = 1");
        // Days above 9000 take more calls than 512: DoneTest goes there.
        e.says("12", "NOT: no SCHOOL; FULL: days are above 9000.");
        e.run("home = NOT, feed 98, home = NOT, tell <x> = -11, home = NOT, tell <b0;>, home = 0, tell <x> = -11, home = 0, school = 0, home = NOT, told 4 = 0");
        e.run("tell <b0;c1 1;>, 490 x home = 0, told 4 = 490");
    }

    private void takeBack() {
        e.says("13", "TAKEN BACK: on whose TABLE it was.");
        e.run("tell <" + MOST + ">, doIt 0, doIt 6, carry 0 4, carry 6 0, home, takeBack 6 = 0, takeBack 0 = 4, child 0 5 = 0, child 4 5 = 0, told 13 = 7");
        e.says("13", "UNKNOWN, NOT: it is on none.");
        e.run("tell <" + HILL + ">, takeBack 0 = NOT, takeBack 6 = UNKNOWN, takeBack -1 = UNKNOWN, takeBack MAX = UNKNOWN, takeBack MIN = UNKNOWN, doIt 0, takeBack 0 = NOT, home, takeBack 0 = 0, takeBack 0 = NOT, doIt 0, throwIt 0, takeBack 0 = NOT, home, takeBack 0 = NOT");
        e.run("tell <" + MOST + ">, takeBack 7 = UNKNOWN, doIt 6, home, takeBack 6 = 4");
    }

    private void drift() {
        e.says("14", "n times (1 .. 60) BY DRAWS: days.");
        e.run("tell <" + LONE + ">, drift 1 = 0, told 13 = 1, drift 2, drift 59, drift 60, told 13 = 4, undo = 3");
        e.run("tell <" + LONE + ">, drift 60 = 14, seed 0 = 2120877416");
        e.run("tell <" + LONE + ">, drift 59, seed 0 = 286635610");
        e.run("tell <" + LONE + ">, seed 3, home, home, drift 1 = 3, told 4 = 3");
        e.says("14", "OUTSIDE, NOT: no SCHOOL; FULL: days are above 9000.");
        e.run("drift 1 = NOT, drift 60 = NOT, drift 0 = OUTSIDE, drift 61 = OUTSIDE, drift -1 = OUTSIDE, drift MAX = OUTSIDE, drift MIN = OUTSIDE, seed 0 = 0");
        e.run("tell <" + LONE + ">, drift 0 = OUTSIDE, drift 61 = OUTSIDE, drift -1 = OUTSIDE, drift MAX = OUTSIDE, drift MIN = OUTSIDE, seed 0 = 0, told 13 = 0, drift 1 = 0");
        e.run("tell <" + LONE + ">, drift 1, school = 0, drift 1 = NOT, drift 61 = OUTSIDE, seed 0 = 1406932606");
    }

    private void undo() {
        e.says("15", "The latest is undone: how many more can be.");
        e.run("tell <" + HILL + ">, doIt 0, doIt 1, undo = 1, deed 1 2 = 0, deed 0 2 = 1, undo = 0, deed 0 2 = 0");
        e.run("tell <" + HILL + ">, 21 x home, undo = 19, told 4 = 20, undo = 18, told 4 = 19");
        e.says("15", "NOT: none.");
        e.run("undo = NOT, tell <" + HILL + ">, undo = NOT, doIt 0, undo = 0, undo = NOT, doIt 0, keep 0, undo = NOT, deed 0 2 = 1, home, goBack 0, undo = NOT, home, tell <" + HILL + ">, undo = NOT");
    }
}
