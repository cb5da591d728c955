/** The bounds of what is tried in section 3, and of promises 16 to 21. */
final class TriedEdges {
    private static final String HILL = SchoolEdges.HILL;
    private static final String MOST = SchoolEdges.MOST;
    private static final String ALL = "doIt 0, doIt 1, doIt 2, doIt 3, doIt 4, doIt 5, doIt 6,";
    private static final String CHAIN = "b5;c1 1;c1 1;c1 1;c1 1;c1 1;h4 0;h0 3;h3 1;h1 2;";

    private final Edges e;

    TriedEdges(Edges edges) {
        e = edges;
    }

    void runAll() {
        nothingChanges();
        loadsSoThatNobodyIsLamed();
        fewestMoved();
        fairest();
        lighterPairs();
        lightenedOrNot();
        setsOfAWeight();
        lookFor();
        handedDown();
        made();
        lastHome();
        odds();
        loads();
        fair();
        lighter();
        weighs();
        handed();
        light();
    }

    private void nothingChanges() {
        e.says("section 3", "TRIED from now; nothing changes by it.", 16, 17, 18, 19, 20, 21);
        e.changesNothing("tell <" + HILL + ">, doIt 0, doIt 1, throwIt 0, home, keep 0, doIt 2, keep 1, doIt 4, doIt 5, see 0 0 true, write 0 9, seed 7, feed 98",
            "loads NONE, loads 1, loads 2, fair NONE, fair 4, lighter NONE, lighter 0, weighs 20 0, weighs 20 3, handed 0 0, handed 2 1, light 7 90, hold, judge, told 7, told 10, child 0 3, fault");
        // Now: all are elsewhere at once, or in the same satchels of another school.
        e.run("tell <" + MOST + ">," + ALL + "loads NONE = NONE, fair NONE = 198, home, loads NONE = 0, fair NONE = 0, loads 0 = NONE, fair 0 = NONE");
        e.run("tell <b0;c9 1;c9 1;d0 5;d0 5;>, doIt 0, doIt 1, loads NONE = 1, fair NONE = 5, tell <b0;c19 1;c9 1;d0 6;d0 5;> = 2, doIt 0, doIt 1, loads NONE = 0, loads 1 = 0, fair NONE = 6");
        e.run("tell <b0;c5 1;c5 1;d0 5;d0 5;>, doIt 0, loads NONE = 0, fair NONE = 5, doIt 1, loads NONE = 1, loads 1 = 1, deed 1 3 = 0, carry 1 1, loads NONE = 0, loads 1 = 1, fair NONE = 5, undo, loads NONE = 1, fair 1 = 1, told 13 = 2");
    }

    private void loadsSoThatNobodyIsLamed() {
        e.says("section 3", "LOADS: all DEEDS that are in satchels, so that nobody is LAMED:", 16);
        e.run("tell <" + HILL + ">, loads NONE = 0, loads 0 = NONE, doIt 0, doIt 5, throwIt 5, loads NONE = 0, loads 0 = 0, loads 5 = NONE, home, loads NONE = 0, loads 0 = NONE, loads 5 = NONE");
        e.run("tell <b0;c5 1;d0 5;d0 1;>, doIt 0, loads NONE = 0, loads 0 = 0, loads 1 = NONE, doIt 1, loads NONE = NONE, loads 0 = NONE, loads 1 = NONE");
        e.run("tell <b0;c5 1;c5 1;d0 5;d0 5;>, doIt 0, doIt 1, loads NONE = 1, loads 0 = 0, loads 1 = 1");
        e.run("tell <b0;c5 1;c4 1;d0 5;d0 5;>, doIt 0, doIt 1, loads NONE = NONE, loads 0 = NONE, loads 1 = NONE");
        e.run("tell <b0;c5 1;c6 1;d0 5;d0 5;>, doIt 0, doIt 1, loads NONE = 1, loads 1 = 1");
        // A deed on a table weighs nothing, one in the brook neither.
        e.run("tell <b9;c5 1;d0 5;d0 5;d0 5;>, doIt 0, doIt 1, loads NONE = NONE, throwIt 0, loads NONE = 0, home, doIt 2, loads NONE = 0, loads 2 = 0, loads 1 = NONE");
        e.run("tell <" + MOST + ">, doIt 0, doIt 1, doIt 2, doIt 3, doIt 4, loads NONE = 1, loads 0 = 0, loads 1 = 4, loads 4 = 3, doIt 5, loads NONE = NONE, loads 4 = NONE, loads 6 = NONE");
    }

    private void fewestMoved() {
        e.says("section 3", "by fewest moved to others; of like ones the first (DEED by DEED the lesser CHILD):", 16);
        e.run("tell <b0;c10 1;c10 1;d1 6;>, doIt 0, loads NONE = 0, loads 0 = 1");
        e.run("tell <b0;c9 1;c9 1;c9 1;d2 5;d2 4;d2 1;>, doIt 0, doIt 1, doIt 2, loads NONE = 1, loads 0 = 0, loads 1 = 2, loads 2 = 2");
        e.run("tell <b0;c9 1;c3 1;d0 9;d0 3;>, doIt 0, doIt 1, loads NONE = 1, loads 0 = 0, loads 1 = 1");
        // Deed 0 would have to go to child 1 ahead of deed 1's going there: the lesser child for deed 0 comes first.
        e.run("tell <b0;c9 1;c9 1;d0 5;d0 5;>, doIt 0, doIt 1, loads 0 = 0, loads 1 = 1, swap 0 1 = NOT, carry 0 1, loads NONE = 0, loads 0 = 1, loads 1 = 0");
        e.run("tell <b0;c1 1;c99 1;d0 14;d0 14;d0 14;d0 14;d0 14;d0 14;d0 14;>," + ALL + "loads NONE = 7, loads 0 = 1, loads 6 = 1");
        e.run("tell <b0;c1 1;c97 1;d0 14;d0 14;d0 14;d0 14;d0 14;d0 14;d0 14;>," + ALL + "loads NONE = NONE, loads 0 = NONE");
        e.says("section 3", "how many moved; the CHILD of a DEED; NONE.", 16);
        e.run("tell <" + HILL + ">, doIt 0, doIt 1, doIt 2, doIt 3, loads NONE = 2, loads 0 = 0, loads 1 = 2, loads 2 = 0, loads 3 = 1, loads 4 = NONE, loads 5 = NONE, doIt 4, loads NONE = NONE, loads 0 = NONE, loads 5 = NONE");
    }

    private void fairest() {
        e.says("section 3", "FAIR: likewise, so that the greatest LOAD is least (LAMED or not): how great; the CHILD; of like ones the first.", 17);
        e.run("tell <" + HILL + ">, fair NONE = 0, fair 0 = NONE, doIt 0, fair NONE = 12, fair 0 = 0, doIt 1, doIt 2, doIt 3, fair NONE = 20, fair 0 = 0, fair 1 = 1, fair 2 = 2, fair 3 = 0, fair 4 = NONE, home, fair NONE = 0, fair 0 = NONE");
        e.run("tell <b0;c1 1;d0 99;d0 99;>, doIt 0, doIt 1, fair NONE = 198, fair 0 = 0, fair 1 = 0");
        e.run("tell <b0;c1 1;c99 1;d1 50;d1 50;>, doIt 0, doIt 1, fair NONE = 50, fair 0 = 0, fair 1 = 1");
        e.run("tell <b0;c9 1;c9 1;c9 1;d2 5;>, doIt 0, fair NONE = 5, fair 0 = 0");
        // All have alike; one has one more; no less than the heaviest.
        e.run("tell <b0;c9 1;c9 1;d0 1;d0 2;d0 2;d0 1;>, doIt 0, doIt 1, doIt 2, doIt 3, fair NONE = 3, fair 0 = 0, fair 1 = 0, fair 2 = 1, fair 3 = 1");
        e.run("tell <b0;c9 1;c9 1;d0 1;d0 2;d0 2;d0 2;>, doIt 0, doIt 1, doIt 2, doIt 3, fair NONE = 4, fair 0 = 0, fair 1 = 0, fair 2 = 1, fair 3 = 1");
        e.run("tell <b0;c9 1;c9 1;d0 1;d0 2;d0 2;d0 6;>, doIt 0, doIt 1, doIt 2, doIt 3, fair NONE = 6, fair 0 = 0, fair 1 = 0, fair 2 = 0, fair 3 = 1");
        e.run("tell <" + MOST + ">," + ALL + "fair NONE = 198, fair 0 = 0, fair 1 = 0, fair 2 = 1, fair 3 = 1, fair 4 = 2, fair 5 = 2, fair 6 = 3, throwIt 0, throwIt 6, fair NONE = 99, fair 0 = NONE, fair 1 = 0, fair 5 = 4");
        e.run("tell <b0;c1 1;d0 99;d0 99;d0 99;d0 99;d0 99;d0 99;d0 99;>," + ALL + "fair NONE = 693, fair 6 = 0, loads NONE = NONE");
    }

    private void lighterPairs() {
        e.says("section 3", "LIGHTER: pairs of DEEDS in unlike satchels (10 times the lesser and the other; rising)", 18);
        e.run("tell <b0;c10 1;c10 1;c9 1;d0 6;d0 6;d1 4;d1 3;d2 9;>, doIt 0, doIt 1, doIt 2, doIt 3, doIt 4, lighter NONE = 4, lighter 0 = 2, lighter 1 = 3, lighter 2 = 12, lighter 3 = 13, lighter 4 = NONE");
        e.run("tell <b0;c9 1;c9 1;d0 1;d0 1;d0 1;d0 1;d0 1;d0 8;d1 1;>," + ALL + "lighter NONE = 1, lighter 0 = 56, lighter 1 = NONE");
        e.run("tell <b0;c11 1;c13 1;d0 4;d0 4;d0 4;d1 3;d1 3;d1 3;d1 3;>," + ALL + "lighter NONE = 12, lighter 0 = 3, lighter 3 = 6, lighter 4 = 13, lighter 11 = 26, lighter 12 = NONE");
        e.run("tell <b0;c5 1;c9 1;d0 4;d0 4;>, doIt 0, doIt 1, told 7 = 1, lighter NONE = 0, lighter 0 = NONE");
        e.run("tell <b0;c9 1;c10 1;d0 10;d1 4;>, doIt 0, lighter NONE = 0, doIt 1, lighter NONE = 1, lighter 0 = 1, home, lighter NONE = 0, lighter 0 = NONE, takeBack 0, doIt 0, lighter NONE = 0");
    }

    private void lightenedOrNot() {
        e.says("section 3", "of whose CHILDREN one at least is LAMED, and by whose SWAP none of both is:", 18);
        e.run("tell <b0;c10 1;c10 1;d0 10;d1 4;>, doIt 0, doIt 1, told 7 = 0, lighter NONE = 0");
        e.run("tell <b0;c10 1;c11 1;d0 11;d1 4;>, doIt 0, doIt 1, told 7 = 1, lighter NONE = 1, lighter 0 = 1");
        e.run("tell <b0;c10 1;c10 1;d0 11;d1 4;>, doIt 0, doIt 1, told 7 = 1, lighter NONE = 0");
        e.run("tell <b0;c10 1;c12 1;d0 11;d1 4;>, doIt 0, doIt 1, lighter NONE = 1");
        // The lamed one has the lesser deed, or the other one; on the bound, and one above it.
        e.run("tell <b0;c10 1;c9 1;d0 6;d0 6;d1 4;d1 3;>, doIt 0, doIt 1, doIt 2, doIt 3, lighter NONE = 2, lighter 0 = 2, lighter 1 = 12");
        e.run("tell <b0;c9 1;c10 1;d0 6;d0 6;d1 4;d1 3;>, doIt 0, doIt 1, doIt 2, doIt 3, lighter NONE = 2, lighter 0 = 3, lighter 1 = 13");
        e.run("tell <b0;c10 1;c10 1;d0 4;d1 6;d1 6;>, doIt 0, doIt 1, doIt 2, told 7 = 2, lighter NONE = 2, lighter 0 = 1, lighter 1 = 2");
        // Both are lamed: no swap helps both.
        e.run("tell <b0;c5 1;c5 1;d0 6;d1 7;>, doIt 0, doIt 1, told 7 = 3, lighter NONE = 0");
        // Whose satchels they are in counts, not whose they were first.
        e.run("tell <b0;c10 1;c10 1;c10 1;d0 8;d0 8;d1 2;>, doIt 0, doIt 1, doIt 2, carry 0 2, carry 1 2, carry 2 0, told 7 = 4, lighter NONE = 2, lighter 0 = 2, lighter 1 = 12");
        // A third child, lamed or not, counts for nothing.
        e.run("tell <b0;c10 1;c10 1;c1 1;d0 6;d1 4;d2 2;>, doIt 0, doIt 1, doIt 2, told 7 = 4, lighter NONE = 0");
        e.run("tell <b0;c9 1;c10 1;c1 1;d0 10;d1 4;d2 2;>, doIt 0, doIt 1, doIt 2, told 7 = 5, lighter NONE = 1, lighter 0 = 1");
        e.says("section 3", "how many; the i-th; NONE.", 18);
        e.run("tell <b0;c9 1;c10 1;d0 10;d1 4;>, lighter NONE = 0, lighter 0 = NONE, doIt 0, doIt 1, lighter NONE = 1, lighter 0 = 1, lighter 1 = NONE");
    }

    private void setsOfAWeight() {
        e.says("section 3", "WEIGHS: SETS of DEEDS (any) that weigh w (0 .. 999) together: how many; the least;", 19);
        e.run("weighs 0 0 = 1, weighs 0 1 = 0, weighs 1 0 = 0, weighs 1 1 = NONE, weighs 999 0 = 0, weighs 999 1 = NONE");
        e.run("tell <" + MOST + ">, weighs 0 0 = 1, weighs 0 1 = 0, weighs 98 0 = 0, weighs 99 0 = 7, weighs 99 1 = 1, weighs 100 0 = 0, weighs 198 0 = 21, weighs 198 1 = 3, weighs 297 0 = 35, weighs 297 1 = 7",
            "weighs 594 0 = 7, weighs 594 1 = 63, weighs 692 0 = 0, weighs 693 0 = 1, weighs 693 1 = 127, weighs 694 0 = 0, weighs 694 1 = NONE, weighs 999 0 = 0");
        e.run("tell <b9;c9 1;d0 1;d0 2;d0 4;>, weighs 7 0 = 1, weighs 6 1 = 6, doIt 0, weighs 7 0 = 1, throwIt 0, weighs 7 1 = 7, doIt 1, home, weighs 7 1 = 7, weighs 8 0 = 0");
        e.run("tell <b9;c9 1;d0 4;d0 2;d0 2;>, weighs 4 0 = 2, weighs 4 1 = 1, tell <b9;c9 1;d0 2;d0 2;d0 4;> = 1, weighs 4 0 = 2, weighs 4 1 = 3");
        e.says("section 3", "SURE: DEEDS in all of these (0 without any);", 19);
        e.run("weighs 0 2 = 0, weighs 1 2 = 0");
        e.run("tell <b9;c9 1;d0 5;d0 1;d0 1;>, weighs 6 2 = 1, weighs 7 2 = 7, weighs 5 2 = 1, weighs 1 2 = 0, weighs 0 2 = 0, weighs 4 2 = 0, weighs 8 2 = 0");
        e.run("tell <" + MOST + ">, weighs 693 2 = 127, weighs 594 2 = 0, weighs 694 2 = 0, weighs 0 2 = 0");
    }

    private void lookFor() {
        e.says("section 3", "LOOK FOR: the DEED by which (is it in the SET?) these are told apart best: the greatest part that is alike is least; of like ones the least; NONE: none parts them.", 19);
        e.run("weighs 0 3 = NONE, weighs 1 3 = NONE");
        e.run("tell <" + MOST + ">, weighs 0 3 = NONE, weighs 1 3 = NONE, weighs 99 3 = 0, weighs 297 3 = 0, weighs 594 3 = 0, weighs 693 3 = NONE, weighs 694 3 = NONE");
        // Two sets, both with deed 0: it parts nothing, 1 does.
        e.run("tell <b9;c9 1;d0 5;d0 1;d0 1;>, weighs 6 3 = 1, weighs 7 3 = NONE, weighs 1 3 = 1");
        // Four sets: deed 0 is in one of them, deeds 1 to 4 in two each.
        e.run("tell <b9;c9 1;d0 4;d0 2;d0 2;d0 1;d0 1;>, weighs 4 0 = 4, weighs 4 3 = 1");
        // Three of four is as far from the half as one of four.
        e.run("tell <b9;c9 1;d0 3;d0 1;d0 1;d0 1;>, weighs 4 0 = 3, weighs 4 3 = 1, weighs 5 0 = 3, weighs 5 3 = 1, weighs 3 0 = 2, weighs 3 3 = 0, weighs 2 3 = 1");
        e.run("tell <b9;c9 1;d0 99;d0 99;d0 99;d0 99;d0 99;d0 1;d0 1;>, weighs 1 3 = 5, weighs 496 3 = 5, weighs 2 3 = NONE");
    }

    private void handedDown() {
        e.says("section 3", "FIRST: who had a CHILD's satchel first (over others; itself);", 20);
        e.run("tell <" + MOST + ">, handed 4 0 = 4, handed 3 0 = 4, handed 2 0 = 4, handed 1 0 = 4, handed 0 0 = 4");
        e.run("tell <" + CHAIN + ">, handed 4 0 = 4, handed 0 0 = 4, handed 3 0 = 4, handed 1 0 = 4, handed 2 0 = 4");
        e.run("tell <b5;c1 1;c1 1;>, handed 0 0 = 0, handed 1 0 = 1");
        e.says("section 3", "HAD: who has had it, or one from it (a SET: all whose FIRST is the same).", 20);
        e.run("tell <" + CHAIN + ">, handed 0 1 = 31, handed 1 1 = 31, handed 2 1 = 31, handed 3 1 = 31, handed 4 1 = 31");
        e.run("tell <b5;c1 1;c1 1;c1 1;c1 1;c1 1;h0 1;h0 2;>, handed 1 1 = 7, handed 2 1 = 7, handed 0 1 = 7, handed 3 1 = 8, handed 4 1 = 16, handed 2 0 = 0, handed 3 0 = 3");
        e.run("tell <b5;c1 1;>, handed 0 1 = 1, handed 0 0 = 0");
    }

    private void made() {
        e.says("section 3", "MADE: CHILDREN (a SET) who carry more WEIGHT of others than of their own.", 5);
        e.run("tell <b9;c99 1;c99 1;d0 5;d1 5;d1 1;>, told 9 = 0, doIt 0, doIt 1, told 9 = 0, carry 1 0, told 9 = 0, doIt 2, told 9 = 0, carry 2 0, told 9 = 1, throwIt 2, told 9 = 0, home, told 9 = 0");
        e.run("tell <b9;c99 1;c99 1;d0 5;d1 4;>, doIt 0, doIt 1, carry 1 0, told 9 = 0, carry 0 1, told 9 = 3, carry 0 0, carry 1 1, carry 0 1, told 9 = 2");
        e.run("tell <" + MOST + ">, doIt 6, carry 6 0, told 9 = 1, doIt 0, told 9 = 0, carry 0 4, told 9 = 17");
    }

    private void lastHome() {
        e.says("section 3", "LAST HOME: the CHILD who is home last; of like ones the least; NONE.", 5);
        e.run("told 10 = NONE, tell <b5;> = 0, told 10 = NONE, tell <b5;c1 1;> = 1, told 10 = 0");
        e.run("tell <b5;c10 5;c10 7;c10 7;d0 4;d0 4;d2 2;>, told 10 = 1, doIt 0, child 0 3 = 7, told 10 = 0, doIt 1, told 10 = 0, doIt 2, child 2 3 = 8, told 10 = 0, home, told 10 = 1, takeBack 2, doIt 2, told 10 = 2, carry 2 1, told 10 = 1");
        e.run("tell <" + MOST + ">, told 10 = 0, doIt 6, told 10 = 4, doIt 2, told 10 = 1");
    }

    private void odds() {
        e.says("section 3", "LIGHT: odds of n (0 .. 60) light days, each by q of a hundred (0 .. 100): a BILLION times q / 100 each (cut).", 21);
        e.run("light 0 0 = 1000000000, light 0 100 = 1000000000, light 1 0 = 0, light 60 0 = 0, light 1 1 = 10000000, light 1 99 = 990000000, light 1 100 = 1000000000, light 59 100 = 1000000000, light 60 100 = 1000000000",
            "light 60 99 = 547156620, light 60 50 = 0, light 4 1 = 10, light 5 1 = 0, light 6 33 = 1291467, light 7 33 = 426184, light 18 33 = 1, light 19 33 = 0");
    }

    private void loads() {
        e.says("16", "LOADS: d = NONE how many, else a CHILD (NONE: it is in no satchel); NONE.");
        e.run("loads NONE = 0, tell <b5;>, loads NONE = 0, tell <b0;c5 1;d0 5;> = 1, loads NONE = 0, loads 0 = NONE, doIt 0, loads NONE = 0, loads 0 = 0");
        e.run("tell <" + MOST + ">, doIt 6, loads 6 = 4, loads 5 = NONE, loads NONE = 0");
        e.says("16", "UNKNOWN.");
        e.run("loads 0 = UNKNOWN, loads -2 = UNKNOWN, tell <" + HILL + ">, loads 6 = UNKNOWN, loads -2 = UNKNOWN, loads 7 = UNKNOWN, loads MAX = UNKNOWN, loads MIN = UNKNOWN, loads 5 = NONE");
        e.run("tell <" + MOST + ">, loads 7 = UNKNOWN, loads 6 = NONE");
    }

    private void fair() {
        e.says("17", "FAIR: d = NONE how great, else a CHILD; NONE (no CHILDREN, too).");
        e.run("fair NONE = NONE, tell <b5;>, fair NONE = NONE, tell <b5;c1 1;> = 1, fair NONE = 0, tell <b0;c1 1;d0 5;> = 1, fair NONE = 0, fair 0 = NONE, doIt 0, fair NONE = 5, fair 0 = 0");
        e.says("17", "UNKNOWN.");
        e.run("fair 0 = UNKNOWN, fair -2 = UNKNOWN, tell <b5;>, fair 0 = UNKNOWN, tell <" + HILL + "> = 3, fair 6 = UNKNOWN, fair -2 = UNKNOWN, fair 7 = UNKNOWN, fair MAX = UNKNOWN, fair MIN = UNKNOWN, fair 5 = NONE");
        e.run("tell <" + MOST + ">, fair 7 = UNKNOWN, fair 6 = NONE");
    }

    private void lighter() {
        e.says("18", "LIGHTER: i = NONE how many, else the i-th; NONE.");
        e.run("lighter NONE = 0, lighter 0 = NONE, lighter -2 = NONE, lighter MAX = NONE, lighter MIN = NONE");
        e.run("tell <b0;c10 1;c10 1;d0 4;d1 6;d1 6;>, doIt 0, doIt 1, doIt 2, lighter NONE = 2, lighter 0 = 1, lighter 1 = 2, lighter 2 = NONE, lighter -2 = NONE, lighter MAX = NONE, lighter MIN = NONE");
    }

    private void weighs() {
        e.says("19", "WEIGHS: what = 0 how many, 1 the least (NONE), 2 SURE, 3 LOOK FOR (NONE).");
        e.run("tell <" + HILL + ">, weighs 28 0 = 2, weighs 28 1 = 10, weighs 28 2 = 0, weighs 28 3 = 1, weighs 77 0 = 1, weighs 77 1 = 63, weighs 77 2 = 63, weighs 77 3 = NONE, weighs 78 0 = 0, weighs 78 1 = NONE, weighs 78 2 = 0, weighs 78 3 = NONE");
        e.says("19", "OUTSIDE.");
        e.run("weighs -1 0 = OUTSIDE, weighs 1000 0 = OUTSIDE, weighs 0 -1 = OUTSIDE, weighs 0 4 = OUTSIDE, weighs MIN 0 = OUTSIDE, weighs MAX 0 = OUTSIDE, weighs 0 MIN = OUTSIDE, weighs 0 MAX = OUTSIDE, weighs 1000 4 = OUTSIDE");
        e.run("tell <" + HILL + ">, weighs -1 3 = OUTSIDE, weighs 1000 3 = OUTSIDE, weighs 77 -1 = OUTSIDE, weighs 77 4 = OUTSIDE, weighs 999 3 = NONE, weighs 0 3 = NONE");
    }

    private void handed() {
        e.says("20", "what = 0 FIRST, 1 HAD.");
        e.run("tell <" + HILL + ">, handed 0 0 = 0, handed 0 1 = 7, handed 2 0 = 0, handed 2 1 = 7");
        e.says("20", "UNKNOWN, OUTSIDE.");
        e.run("handed 0 0 = UNKNOWN, handed 0 2 = UNKNOWN, tell <" + HILL + ">, handed 3 0 = UNKNOWN, handed -1 0 = UNKNOWN, handed 3 2 = UNKNOWN, handed -1 -1 = UNKNOWN, handed 2 -1 = OUTSIDE, handed 2 2 = OUTSIDE, handed 0 MIN = OUTSIDE, handed 0 MAX = OUTSIDE");
        e.run("tell <" + MOST + ">, handed 4 1 = 31, handed 5 1 = UNKNOWN, handed MAX 1 = UNKNOWN, handed MIN 1 = UNKNOWN");
    }

    private void light() {
        e.says("21", "LIGHT.");
        e.run("light 3 90 = 729000000, light 2 50 = 250000000");
        e.says("21", "OUTSIDE.");
        e.run("light -1 0 = OUTSIDE, light 61 0 = OUTSIDE, light 0 -1 = OUTSIDE, light 0 101 = OUTSIDE, light 61 100 = OUTSIDE, light 60 101 = OUTSIDE, light MIN 0 = OUTSIDE, light MAX 0 = OUTSIDE, light 0 MIN = OUTSIDE, light 0 MAX = OUTSIDE, light -1 -1 = OUTSIDE");
    }
}
