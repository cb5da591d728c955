/** The bounds of the terms, of section 1 and of promises 1 to 7. */
final class SchoolEdges {
    static final String HILL = "b20;c30 10;c15 20;c25 30;d0 12;d0 20;d1 9;d1 8;d2 25;d2 3;h0 1;h1 2;";
    static final String MOST = "b999;c99 99;c99 99;c99 99;c99 99;c99 99;"
        + "d0 99;d0 99;d1 99;d2 99;d3 99;d4 99;d4 99;h4 3;h3 2;h2 1;h1 0;";
    private static final String ONE = "b5;c1 1;";
    private static final String FIVE = "b5;c1 1;c1 1;c1 1;c1 1;c1 1;";
    private static final String SEVEN = "b5;c1 1;d0 1;d0 1;d0 1;d0 1;d0 1;d0 1;d0 1;";

    private final Edges e;

    SchoolEdges(Edges edges) {
        e = edges;
    }

    void runAll() {
        terms();
        refusals();
        lengthOfText();
        bounds();
        lettersThatStand();
        numbersAndBlanks();
        placesOfFaults();
        faults();
        emptyText();
        newObject();
        feed();
        school();
        fault();
        told();
        child();
        deed();
    }

    private void terms() {
        e.passesOver("Terms", "Words in capitals are told where they come first.");
        e.says("Terms", "All numbers are whole; / cuts towards 0.", 6, 21);
        e.run("tell <b0;c3 10;d0 1;d0 1;d0 1;> = 1, child 0 3 = 10, doIt 0, child 0 3 = 13, doIt 1, child 0 3 = 16, doIt 2, child 0 3 = 20");
        e.run("light 5 1 = 0, light 4 1 = 10, light 19 33 = 0, light 18 33 = 1");
        e.says("Terms", "What has a number has it from 0 on, as it comes.", 3, 4, 6, 7, 18, 26);
        e.run("tell <b0;c11 1;c12 2;d1 13;d0 14;d0 1;> = 2, child 0 0 = 11, child 1 0 = 12, deed 0 1 = 13, deed 1 1 = 14",
            "write 0 1, write 1 0, judge = 0, tell <x> = -11, fault = 0");
        e.says("Terms", "A SET is a whole number, bit k for k.", 5, 6, 12, 19);
        e.run("tell <b9;c1 1;c1 1;c1 1;c1 1;c1 1;d0 2;d1 2;d2 2;d3 2;d4 2;d4 2;d4 2;> = 5",
            "doIt 0, told 7 = 1, doIt 4, told 7 = 17, doIt 1, doIt 2, doIt 3, doIt 5, doIt 6, told 7 = 31",
            "child 0 4 = 1, child 4 4 = 112, carry 6 0, child 0 4 = 65, carry 0 1, carry 1 0, told 9 = 3",
            "home = 31, child 0 5 = 66, child 4 5 = 48, weighs 14 1 = 127, weighs 14 2 = 127");
        e.says("Terms", "NONE is -1.", 4, 5, 16, 18);
        e.run("told 10 = -1, fault = -1, loads -1 = 0, fair -1 = -1, lighter -1 = 0, judge = -1, weighs 1 1 = -1");
        e.says("Terms", "BILLION is 1000000000.", 21);
        e.run("light 0 0 = 1000000000, light 0 100 = 1000000000, light 1 100 = 1000000000, light 1 99 = 990000000");
    }

    private void refusals() {
        String two = "b9;c9 1;c9 1;d0 1;d1 1;";
        e.says("Terms", "REFUSALS, of several the first in this order:", 2, 6, 7, 9, 10, 14, 16, 17, 20, 22, 24, 29);
        e.run("drift 0 = OUTSIDE, drift 61 = OUTSIDE, goBack 2 = UNKNOWN, 240 x feed 32, feed 32 = FULL, feed 256 = OUTSIDE, feed -1 = OUTSIDE");
        e.run("tell <" + two + ">, child 2 8 = UNKNOWN, deed 2 4 = UNKNOWN, handed 2 2 = UNKNOWN, carry 0 2 = UNKNOWN, carry 2 0 = UNKNOWN",
            "swap 0 0 = UNKNOWN, swap 0 2 = UNKNOWN, write 2 1000 = UNKNOWN, write 2 -1 = UNKNOWN");
        e.run("tell <" + two + ">, 6 x see 0 0 true, see 2 0 true = UNKNOWN, see 0 2 true = UNKNOWN, see 0 0 true = FULL",
            "15 x write 0 0, write 2 0 = UNKNOWN, write 2 1000 = UNKNOWN, write 0 1000 = OUTSIDE, write 0 -1 = OUTSIDE, write 0 0 = FULL");
        e.run("tell <b9;c1 1;d0 2;>, doIt 0, loads NONE = NONE, loads 1 = UNKNOWN, loads 0 = NONE, fair 1 = UNKNOWN");
        e.says("Terms", "UNKNOWN (a CHILD, DEED, IMAGE that there is not; bits of such; one twice, where two are asked),",
            6, 7, 8, 9, 10, 11, 13, 16, 17, 20, 22, 24, 28, 29);
        for (String no : new String[] {"2", "-1", "7", "31", "32", "MAX", "MIN"}) {
            e.run("tell <" + two + ">, child " + no + " 0 = UNKNOWN, deed " + no + " 0 = UNKNOWN, doIt " + no + " = UNKNOWN",
                "doIt 0, carry 0 " + no + " = UNKNOWN, carry " + no + " 1 = UNKNOWN, swap 0 " + no + " = UNKNOWN, swap " + no + " 0 = UNKNOWN",
                "swap " + no + " " + no + " = UNKNOWN, throwIt " + no + " = UNKNOWN, takeBack " + no + " = UNKNOWN",
                "handed " + no + " 0 = UNKNOWN, see " + no + " 0 true = UNKNOWN, see 0 " + no + " false = UNKNOWN",
                "write " + no + " 0 = UNKNOWN, keep " + no + " = UNKNOWN, goBack " + no + " = UNKNOWN");
        }
        e.run("tell <" + two + ">, doIt 0, doIt 1, swap 0 0 = UNKNOWN, swap 1 1 = UNKNOWN, swap 0 1 = 1, swap 1 0 = 1");
        e.says("Terms", "OUTSIDE (another number out of its bounds), NOT (not now, as told), FULL.", 2, 5, 14, 24, 27);
        e.run("feed 256 = OUTSIDE, told 14 = OUTSIDE, seed -1 = OUTSIDE, weighs 1000 0 = OUTSIDE, light 61 0 = OUTSIDE, undo = NOT");
        e.says("Terms", "They are far below all that is counted: -1000000001 and on.", 2, 5, 15, 28);
        e.run("keep 2 = -1000000001, told 14 = -1000000002, undo = -1000000003, 240 x feed 32, feed 32 = -1000000004");
        e.says("Terms", "What is refused changes nothing.", 8, 9, 10, 11, 12, 13, 14, 15);
        e.run("tell <" + HILL + ">, doIt 0, doIt 1, throwIt 0, home, doIt 2, doIt 5, keep 0, carry 2 0, see 0 0 true, write 0 9, seed 7, feed 98",
            "doIt 1 = NOT, carry 2 0 = NOT, swap 2 2 = UNKNOWN, swap 2 1 = NOT, throwIt 1 = NOT, takeBack 2 = NOT, drift 0 = OUTSIDE",
            "see 3 0 true = UNKNOWN, write 0 1000 = OUTSIDE, seed -1 = OUTSIDE, keep 2 = UNKNOWN, goBack 1 = NOT, feed 256 = OUTSIDE",
            "told 13 = 1, undo = 0, undo = NOT, deed 2 3 = 1, goBack 0 = 1, undo = NOT");
    }

    private void lengthOfText() {
        e.says("section 1", "is told in a text (240 letters at most): clauses:", 2, 3, 4);
        e.fine(HILL + " ".repeat(239 - HILL.length()), 3);
        e.fine(HILL + " ".repeat(240 - HILL.length()), 3);
        e.fine(" ".repeat(240 - HILL.length()) + HILL, 3, "child 2 7 = 1, deed 5 1 = 3");
        e.faulty("b5;" + " ".repeat(235) + "cx", 1, 239);
        e.faulty("b5;" + " ".repeat(236) + "x", 1, 239);
        e.faulty("b5;" + " ".repeat(236) + "c", 1, 240);
        e.faulty("b5;" + " ".repeat(236) + "b", 3, 239);
        e.faulty("b" + " ".repeat(235) + "1000", 2, 236);
        e.fine("b" + " ".repeat(235) + "999;", 0, "told 0 = 999");
        e.faulty("b5;" + "c1 1;".repeat(47) + " ", 3, 28);
        e.run("237 x feed 32, feed 98 = 238, feed 53 = 239, feed 59 = 240, feed 120 = FULL, school = 0, told 0 = 5, fault = NONE");
    }

    private void bounds() {
        e.says("section 1", "'b' B ';' (the BROOK takes B WEIGHT a day, 0 .. 999; first, once)", 3, 5);
        e.fine("b0;", 0, "told 0 = 0, home = 0");
        e.fine("b1;", 0, "told 0 = 1");
        e.fine("b998;", 0, "told 0 = 998");
        e.fine("b999;", 0, "told 0 = 999");
        e.faulty("b1000;", 2, 1);
        e.faulty("b-1;", 1, 1);
        e.faulty("c1 1;b5;", 1, 0);
        e.faulty("b5;c1 1;b5;", 3, 8);
        e.says("section 1", "'c' S M ';' (5 CHILDREN at most: STRONG S, 1 .. 99; M minutes home without a load, 1 .. 99)", 3, 6);
        e.fine("b5;", 0, "told 1 = 0, child 0 0 = UNKNOWN");
        e.fine(ONE, 1, "told 1 = 1, child 0 0 = 1, child 0 1 = 1, child 1 0 = UNKNOWN");
        e.fine(FIVE.substring(0, FIVE.length() - 5), 4, "told 1 = 4, child 3 0 = 1, child 4 0 = UNKNOWN");
        e.fine(FIVE, 5, "told 1 = 5, child 4 0 = 1, child 5 0 = UNKNOWN");
        e.faulty(FIVE + "c1 1;", 3, 28);
        e.faulty("b5;c0 1;", 2, 4);
        e.fine("b5;c2 98;c98 2;c99 99;", 3, "child 0 0 = 2, child 0 1 = 98, child 1 0 = 98, child 1 1 = 2, child 2 0 = 99, child 2 1 = 99");
        e.faulty("b5;c100 1;", 2, 4);
        e.faulty("b5;c1 0;", 2, 6);
        e.faulty("b5;c1 100;", 2, 6);
        e.says("section 1", "'d' C W ';' (7 DEEDS at most: of CHILD C told ahead, WEIGHT W, 1 .. 99)", 3, 7);
        e.fine(ONE, 1, "told 2 = 0, deed 0 0 = UNKNOWN");
        e.fine(ONE + "d0 1;", 1, "told 2 = 1, deed 0 0 = 0, deed 0 1 = 1, deed 1 0 = UNKNOWN");
        e.fine(SEVEN.substring(0, SEVEN.length() - 5), 1, "told 2 = 6, deed 5 1 = 1, deed 6 0 = UNKNOWN");
        e.fine(SEVEN, 1, "told 2 = 7, deed 6 1 = 1, deed 7 0 = UNKNOWN");
        e.faulty(SEVEN + "d0 1;", 3, 43);
        e.fine(FIVE + "d4 99;d0 98;d3 2;", 5, "deed 0 0 = 4, deed 0 1 = 99, deed 1 0 = 0, deed 1 1 = 98, deed 2 0 = 3, deed 2 1 = 2");
        e.faulty(FIVE + "d5 1;", 2, 29);
        e.faulty("b5;d0 1;", 2, 4);
        e.faulty(ONE + "d1 1;c1 1;", 2, 9);
        e.faulty(ONE + "d0 0;", 2, 11);
        e.faulty(ONE + "d0 100;", 2, 11);
        e.says("section 1", "'h' A B ';' (CHILD B has the satchel from A, unlike, told ahead; each B once, not in a ring).", 3, 6);
        e.fine(FIVE + "h0 4;", 5, "child 4 7 = 0, child 0 7 = NONE");
        e.fine(FIVE + "h4 0;", 5, "child 0 7 = 4, child 4 7 = NONE");
        e.fine(FIVE + "h0 1;h1 2;h2 3;h3 4;", 5, "child 0 7 = NONE, child 1 7 = 0, child 2 7 = 1, child 3 7 = 2, child 4 7 = 3");
        e.fine(FIVE + "h2 0;h2 1;h2 3;h2 4;", 5, "child 0 7 = 2, child 1 7 = 2, child 2 7 = NONE, child 3 7 = 2, child 4 7 = 2");
        e.fine(FIVE + "h3 4;h2 3;h1 2;h0 1;", 5, "child 4 7 = 3, child 1 7 = 0, child 0 7 = NONE");
        e.faulty(FIVE + "h5 0;", 2, 29);
        e.faulty(FIVE + "h0 5;", 2, 31);
        e.faulty("b5;h0 0;", 2, 4);
        e.faulty(ONE + "h0 1;c1 1;", 2, 11);
        e.faulty(ONE + "h0 0;", 4, 11);
    }

    /** Every other letter of the 256 is fault 1, at that letter. */
    private void lettersThatStand() {
        e.says("section 1", "1 it cannot stand there (a letter that is no word, another word first than 'b').", 3, 4);
        onlyThese("", "b ");
        onlyThese("   ", "b ");
        onlyThese("b", "0123456789 ");
        onlyThese("b5", "0123456789 ;");
        onlyThese("b5 ", " ;");
        onlyThese("b5;", "bcdh ");
        onlyThese("b5;c", "0123456789 ");
        onlyThese("b5;c1", "0123456789 ");
        onlyThese("b5;c1 ", "0123456789 ");
        onlyThese("b5;c1 1", "0123456789 ;");
        onlyThese("b5;c1 1 ", " ;");
        onlyThese(ONE, "bcdh ");
        onlyThese(ONE + "d", "0123456789 ");
        onlyThese(ONE + "d0", "0123456789 ");
        onlyThese(ONE + "d0 1", "0123456789 ;");
        onlyThese(ONE + "h", "0123456789 ");
        onlyThese(ONE + "c1 1;h0", "0123456789 ");
        onlyThese(ONE + "c1 1;h0 1", "0123456789 ;");
        onlyThese(ONE + "c1 1;h0 1 ", " ;");
        onlyThese(ONE + "c1 1;h0 1;", "bcdh ");
    }

    private void onlyThese(String ahead, String letters) {
        for (char letter = 0; letter < 256; letter++) {
            if (letters.indexOf(letter) < 0) {
                e.faulty(ahead + letter, 1, ahead.length());
            }
        }
    }

    private void numbersAndBlanks() {
        e.says("section 1", "NUMBERS have one to three figures; a word is one letter;", 3, 4);
        e.fine("b7;c8 9;d0 6;", 1, "told 0 = 7, child 0 0 = 8, child 0 1 = 9, deed 0 1 = 6");
        e.fine("b07;c08 09;d00 06;", 1, "told 0 = 7, child 0 0 = 8, child 0 1 = 9, deed 0 1 = 6");
        e.fine("b007;c008 009;c010 099;d001 006;h000 001;", 2, "told 0 = 7, child 0 0 = 8, child 0 1 = 9, deed 0 1 = 6, child 1 0 = 10, child 1 1 = 99");
        e.faulty("b0007;", 2, 1);
        e.faulty("b5;c0008 1;", 2, 4);
        e.faulty("b5;c8 0001;", 2, 6);
        e.faulty(ONE + "d0000 1;", 2, 9);
        e.faulty(ONE + "d0 0001;", 2, 11);
        e.faulty(ONE + "c1 1;h0000 1;", 2, 14);
        e.faulty(ONE + "c1 1;h0 0001;", 2, 16);
        e.faulty("b;", 1, 1);
        e.faulty("b5;c;", 1, 4);
        e.faulty("b5;c1;", 1, 5);
        e.faulty("brook5;", 1, 1);
        e.faulty("b5;cc1 1;", 1, 4);
        e.says("section 1", "blanks (32) may stand anywhere but within NUMBERS;", 3, 4);
        e.fine("  b  5  ;  c  1  1  ;  c 2 2 ;d  0  1  ;  h  0  1  ;  ", 2, "told 0 = 5, told 2 = 1, child 1 7 = 0");
        e.fine("b5; ", 0);
        e.fine(" b5;", 0);
        e.faulty("b1 2;", 1, 3);
        e.faulty("b5;c1 2 3;", 1, 8);
        e.faulty(ONE + "d0 1 2;", 1, 13);
        e.faulty(ONE + "c1 1;h0 1 0;", 1, 18);
        e.says("section 1", "two NUMBERS side by side need one.", 3, 4);
        e.fine("b5;c1 1;", 1);
        e.fine("b5;c1   1;", 1);
        e.faulty("b5;c11;", 1, 6);
        e.faulty("b5;c1010;", 2, 4);
        e.faulty("b5;c101;", 2, 4);
        e.faulty(ONE + "d01;", 2, 9);
        e.faulty(ONE + "d00;", 1, 11);
        e.faulty(ONE + "c1 1;h01;", 1, 16);
    }

    private void placesOfFaults() {
        e.says("section 1", "FAULTS, at the first letter that has one (the end at the text's length), of these the least:", 3, 4);
        // The first letter: what stands behind it has a lesser fault, and is not told.
        e.faulty("b1000x", 2, 1);
        e.faulty("b5;b", 3, 3);
        e.faulty("b5;bx", 3, 3);
        e.faulty(FIVE + "cx", 3, 28);
        e.faulty(SEVEN + "dx", 3, 43);
        e.faulty(FIVE + "c1000 0", 3, 28);
        e.faulty(FIVE + "h0 0x", 4, 31);
        e.faulty(FIVE + "h0 1;h0 1", 4, 36);
        e.faulty("b5;c0 x", 2, 4);
        e.faulty("b5;c100", 2, 4);
        e.faulty("b5;c1 0x", 2, 6);
        // The least of one letter: 1 ahead of 2, of 3; 2 ahead of 4.
        e.faulty("b5;1000;", 1, 3);
        e.faulty("b5 1000;", 1, 3);
        e.faulty("b5;c1 1 1000;", 1, 8);
        e.faulty("bb5;", 1, 1);
        e.faulty("b5b5;", 1, 2);
        e.faulty(FIVE + "d0 c1 1;", 1, 31);
        e.faulty(FIVE + "h0 0000;", 2, 31);
        e.faulty(FIVE + "h0 1;h2 0001;", 2, 36);
        e.faulty(FIVE + "h0 1;h1 0000;", 2, 36);
        // The end.
        e.faulty("b", 1, 1);
        e.faulty("b5", 1, 2);
        e.faulty("b5 ", 1, 3);
        e.faulty("b5;c", 1, 4);
        e.faulty("b5;c1", 1, 5);
        e.faulty("b5;c1 ", 1, 6);
        e.faulty("b5;c1 1", 1, 7);
        e.faulty("b5;c1 1  ", 1, 9);
        e.faulty(ONE + "d", 1, 9);
        e.faulty(ONE + "d0", 1, 10);
        e.faulty(ONE + "d0 1", 1, 12);
        e.faulty(FIVE + "h", 1, 29);
        e.faulty(FIVE + "h0", 1, 30);
        e.faulty(FIVE + "h0 1", 1, 32);
        e.faulty("   b", 1, 4);
    }

    private void faults() {
        e.says("section 1", "2 a NUMBER of four figures or more, or out of its bounds; a CHILD that was not told yet (at its first).", 3, 4);
        e.faulty("b   1000;", 2, 4);
        e.faulty("b12345678901234567890;", 2, 1);
        e.faulty("b4294967297;", 2, 1);
        e.faulty("b5;c  100 1;", 2, 6);
        e.faulty("b5;c1  100;", 2, 7);
        e.faulty("b5;c1  999;", 2, 7);
        e.faulty(ONE + "d  1 1;", 2, 11);
        e.faulty(ONE + "d999 1;", 2, 9);
        e.faulty(ONE + "d0  000;", 2, 12);
        e.faulty(ONE + "h  1 0;", 2, 11);
        e.faulty(ONE + "h0  1;", 2, 12);
        e.faulty(ONE + "c1 1;h2 2;", 2, 14);
        e.faulty(ONE + "c1 1;h0 2;", 2, 16);
        e.faulty(ONE + "c1 1;h0 999;", 2, 16);
        e.says("section 1", "3 'b' again, a sixth 'c', an eighth 'd' (at it).", 3, 4);
        e.faulty("b5;b5;", 3, 3);
        e.faulty("b5;   b5;", 3, 6);
        e.faulty(SEVEN + "b", 3, 43);
        e.faulty(FIVE + "   c1 1;", 3, 31);
        e.faulty(FIVE + "d0 1;h0 1;c1 1;", 3, 38);
        e.faulty(SEVEN + "   d0 1;", 3, 46);
        e.faulty(SEVEN + "c1 1;d0 1;", 3, 48);
        e.fine(SEVEN + "c1 1;c1 1;c1 1;c1 1;", 5, "told 2 = 7");
        e.says("section 1", "4 B like A, has the satchel from somebody already, or A has it (over others, too) from B (at the B).", 3, 4);
        e.faulty(FIVE + "h4 4;", 4, 31);
        e.faulty(FIVE + "h  4   4;", 4, 35);
        e.faulty(FIVE + "h0 000;", 4, 31);
        e.faulty(FIVE + "h0 1;h0 1;", 4, 36);
        e.faulty(FIVE + "h0 1;h4 1;", 4, 36);
        e.faulty(FIVE + "h0 1;h1 0;", 4, 36);
        e.faulty(FIVE + "h0 1;h1 2;h2 0;", 4, 41);
        e.faulty(FIVE + "h0 1;h1 2;h2 3;h3 0;", 4, 46);
        e.faulty(FIVE + "h0 1;h1 2;h2 3;h3 4;h4 0;", 4, 51);
        e.faulty(FIVE + "h3 4;h2 3;h1 2;h0 1;h4 0;", 4, 51);
        e.fine(FIVE + "h0 1;h2 3;h1 2;", 5, "child 3 7 = 2, child 2 7 = 1, child 1 7 = 0");
        e.faulty(FIVE + "h0 1;h2 3;h1 2;h3 0;", 4, 46);
        e.fine(FIVE + "h1 0;h3 2;h4 1;h4 3;", 5, "handed 0 0 = 4, handed 2 0 = 4");
    }

    private void emptyText() {
        e.says("section 1", "An empty text: no SCHOOL.", 3, 4, 12, 14);
        e.run("school = 0, fault = NONE, home = NOT, drift 1 = NOT, told 1 = 0");
        e.run("feed 32, school = 0, fault = NONE, home = NOT, drift 1 = NOT");
        e.run("240 x feed 32, school = 0, fault = NONE, home = NOT, told 3 = 0");
        e.run("tell <" + HILL + ">, doIt 0, home, school = 0, home = NOT, drift 60 = NOT, child 0 0 = UNKNOWN, deed 0 0 = UNKNOWN, told 4 = 0, told 0 = 0");
        e.run("tell <b0;>, home = 0, drift 1 = 1, school = 0, home = NOT");
    }

    private void newObject() {
        e.says("1", "No SCHOOL.");
        StringBuilder told = new StringBuilder();
        for (int what = 0; what <= 13; what++) {
            told.append("told ").append(what).append(what == 10 ? " = NONE," : " = 0,");
        }
        e.run(told.toString(), "fault = NONE, child 0 0 = UNKNOWN, deed 0 0 = UNKNOWN, handed 0 0 = UNKNOWN",
            "doIt 0 = UNKNOWN, carry 0 0 = UNKNOWN, swap 0 1 = UNKNOWN, throwIt 0 = UNKNOWN, takeBack 0 = UNKNOWN",
            "home = NOT, drift 1 = NOT, undo = NOT, loads 0 = UNKNOWN, fair 0 = UNKNOWN, see 0 0 true = UNKNOWN, write 0 0 = UNKNOWN",
            "goBack 0 = NOT, goBack 1 = NOT, hold = 1, judge = NONE, tear = 0, seed 0 = 0");
    }

    private void feed() {
        e.says("2", "One letter (a number 0 .. 255) comes behind THE TEXT: how many it has.");
        e.run("told 3 = 0, feed 0 = 1, feed 1 = 2, feed 254 = 3, feed 255 = 4, told 3 = 4");
        e.run("feed 98 = 1, feed 53 = 2, feed 59 = 3, school = 0, told 0 = 5, feed 98 = 1, told 3 = 1");
        e.says("2", "OUTSIDE, FULL (240).");
        e.run("feed -1 = OUTSIDE, feed 256 = OUTSIDE, feed MIN = OUTSIDE, feed MAX = OUTSIDE, feed 354 = OUTSIDE, told 3 = 0, feed 98 = 1");
        e.run("238 x feed 32, feed 98 = 239, feed 53 = 240, feed 59 = FULL, feed 256 = OUTSIDE, feed -1 = OUTSIDE, told 3 = 240",
            "school = -11, fault = 240, told 3 = 0, feed 98 = 1");
    }

    private void school() {
        String lived = "tell <" + HILL + "> = 3, doIt 0, doIt 1, throwIt 0, home, keep 0, doIt 2, keep 1, doIt 4, see 0 0 true, write 0 9, seed 7, ";
        e.says("3", "THE TEXT (it is empty then, with a FAULT, too)");
        e.run("tell <b5;> = 0, told 3 = 0, school = 0, told 0 = 0");
        e.run("tell <b5;x> = -11, told 3 = 0, school = 0, fault = NONE, tell <b7;> = 0, told 0 = 7");
        e.run("tell <> = 0, told 3 = 0");
        e.says("3", "becomes THE SCHOOL (nothing DONE, day 0; nothing SEEN, no BOOK; IMAGES, what could be undone are gone; THE SEED stays): how many CHILDREN;");
        e.run(lived + "tell <" + HILL + "> = 3, deed 0 2 = 0, deed 1 2 = 0, deed 2 2 = 0, deed 4 2 = 0, deed 1 3 = NONE, told 4 = 0, told 5 = 0, told 6 = 0",
            "told 8 = 0, child 0 6 = 0, told 11 = 0, told 12 = 0, hold = 1, judge = NONE, goBack 0 = NOT, goBack 1 = NOT, told 13 = 0, undo = NOT, seed 0 = 7");
        e.run(lived + "tell <b7;> = 0, told 0 = 7, told 1 = 0, told 2 = 0, told 10 = NONE, child 0 0 = UNKNOWN, deed 0 0 = UNKNOWN, seed 0 = 7");
        e.run("tell <" + FIVE + "h0 1;> = 5, tell <" + FIVE + "> = 5, child 1 7 = NONE");
        e.run("keep 0 = 1, tell <b5;> = 0, goBack 0 = NOT");
        e.says("3", "-10 less the number of its FAULT (all else is as it was).");
        e.run(lived + "tell <x> = -11, tell <b5;c0 1;> = -12, tell <b5;c1 1;b> = -13, tell <b5;c1 1;h0 0;> = -14",
            "told 0 = 20, told 1 = 3, told 2 = 6, told 4 = 1, told 6 = 12, told 11 = 1, told 12 = 1, told 13 = 1, child 2 7 = 1, deed 0 1 = 12, undo = 0, deed 2 2 = 1, goBack 1 = 1, goBack 0 = 1, deed 2 2 = 0");
        e.run("tell <b5;c1 1;c0> = -12, told 0 = 0, told 1 = 0, home = NOT, child 0 0 = UNKNOWN");
    }

    private void fault() {
        e.says("4", "The letter of the FAULT of the latest school(); NONE.");
        e.run("fault = NONE, feed 120, fault = NONE, school = -11, fault = 0, fault = 0, tell <b5x> = -11, fault = 2",
            "tell <b5;> = 0, fault = NONE, tell <b5;c1 100;> = -12, fault = 6, school = 0, fault = NONE");
    }

    private void told() {
        e.says("5", "0 B, 1 CHILDREN, 2 DEEDS, 3 letters of THE TEXT, 4 days, 5 what the BROOK took this day,");
        e.run("tell <" + MOST + ">, told 0 = 999, told 1 = 5, told 2 = 7, told 3 = 0, told 4 = 0, told 5 = 0, feed 98, told 3 = 1",
            "doIt 0, throwIt 0, told 5 = 99, told 4 = 0, home, told 4 = 1, told 5 = 0");
        e.says("5", "6 in all (999999 at most),");
        e.run("tell <" + MOST + ">, doIt 0, doIt 1, doIt 2, doIt 3, doIt 4, doIt 5, doIt 6, told 6 = 0, throwIt 0 = 99, throwIt 1 = 198, told 6 = 198, home, told 6 = 198",
            "takeBack 2, takeBack 3, takeBack 4, takeBack 5, takeBack 6, doIt 2, doIt 3, doIt 4, doIt 5, doIt 6, throwIt 2 = 99, throwIt 3, throwIt 4, throwIt 5, throwIt 6 = 495, told 6 = 693");
        e.says("5", "7 who is LAMED (a SET), 8 days LAMED of all, 9 MADE (a SET), 10 LAST HOME,");
        e.run("tell <b9;c1 1;c2 1;d0 1;d0 1;d1 3;>, told 7 = 0, doIt 0, told 7 = 0, doIt 1, told 7 = 1, doIt 2, told 7 = 3, told 8 = 0, home = 3, told 7 = 0, told 8 = 2",
            "takeBack 2, doIt 2, carry 2 0, told 9 = 1, told 10 = 0, home = 1, told 8 = 3, told 9 = 0");
        e.says("5", "11 what is SEEN, 12 entries of THE BOOK, 13 how many can be undone.");
        e.run("tell <" + HILL + ">, told 11 = 0, told 12 = 0, told 13 = 0, see 0 0 true, told 11 = 1, 5 x see 0 0 true, told 11 = 6, see 0 0 true = FULL, told 11 = 6",
            "write 0 0, told 12 = 1, 14 x write 0 0, told 12 = 15, write 0 0 = FULL, told 12 = 15, home, told 13 = 1, 19 x home, told 13 = 20, home, told 13 = 20");
        e.says("5", "OUTSIDE.");
        e.run("told -1 = OUTSIDE, told 14 = OUTSIDE, told MIN = OUTSIDE, told MAX = OUTSIDE, told 13 = 0, told 0 = 0");
        e.run("tell <" + HILL + ">, told -1 = OUTSIDE, told 14 = OUTSIDE");
    }

    private void child() {
        e.says("6", "Of a CHILD: what = 0 S, 1 M, 2 LOAD, 3 MINUTES home, 4 DEEDS in the satchel, 5 on the TABLE (SETS), 6 days LAMED, 7 from whom the satchel is (NONE).");
        e.run("tell <" + HILL + ">, child 0 7 = NONE, child 1 7 = 0, child 2 7 = 1, child 2 0 = 25, child 2 1 = 30, child 2 2 = 0, child 2 3 = 30, child 2 4 = 0, child 2 5 = 0, child 2 6 = 0",
            "doIt 4, doIt 5, child 2 2 = 28, child 2 3 = 63, child 2 4 = 48, child 2 5 = 0, home = 4, child 2 2 = 0, child 2 3 = 30, child 2 4 = 0, child 2 5 = 48, child 2 6 = 1, child 0 6 = 0");
        e.says("6", "UNKNOWN, OUTSIDE.");
        e.run("tell <" + HILL + ">, child 0 -1 = OUTSIDE, child 0 8 = OUTSIDE, child 2 MIN = OUTSIDE, child 2 MAX = OUTSIDE",
            "child 3 0 = UNKNOWN, child -1 0 = UNKNOWN, child 3 8 = UNKNOWN, child -1 -1 = UNKNOWN, child MAX 0 = UNKNOWN, child MIN 0 = UNKNOWN");
        e.run("tell <" + MOST + ">, child 4 7 = NONE, child 4 8 = OUTSIDE, child 5 7 = UNKNOWN");
    }

    private void deed() {
        e.says("7", "Of a DEED: what = 0 C, 1 W, 2 what it is (0 .. 3), 3 in whose satchel, on whose TABLE (NONE).");
        e.run("tell <" + HILL + ">, deed 0 0 = 0, deed 5 0 = 2, deed 5 1 = 3, deed 0 2 = 0, deed 0 3 = NONE, doIt 0, deed 0 2 = 1, deed 0 3 = 0, carry 0 2, deed 0 3 = 2, deed 0 0 = 0",
            "home, deed 0 2 = 3, deed 0 3 = 2, takeBack 0, deed 0 2 = 0, deed 0 3 = NONE, doIt 0, throwIt 0, deed 0 2 = 2, deed 0 3 = NONE, home, deed 0 2 = 2, deed 0 3 = NONE");
        e.says("7", "UNKNOWN, OUTSIDE.");
        e.run("tell <" + HILL + ">, deed 0 -1 = OUTSIDE, deed 0 4 = OUTSIDE, deed 5 MIN = OUTSIDE, deed 5 MAX = OUTSIDE",
            "deed 6 0 = UNKNOWN, deed -1 0 = UNKNOWN, deed 6 4 = UNKNOWN, deed -1 -1 = UNKNOWN, deed MAX 0 = UNKNOWN, deed MIN 0 = UNKNOWN");
        e.run("tell <" + MOST + ">, deed 6 3 = NONE, deed 6 4 = OUTSIDE, deed 7 3 = UNKNOWN");
    }
}
