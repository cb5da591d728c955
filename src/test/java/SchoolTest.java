/** Promises 1 to 7: a new object, the text, its faults, what is told of school, children, deeds. */
public final class SchoolTest {
    private static final String HILL = "b20;c30 10;c15 20;c25 30;d0 12;d0 20;d1 9;d1 8;d2 25;d2 3;h0 1;h1 2;";
    private static final Check check = new Check();

    public static void main(String[] args) {
        newObject();
        feed();
        schoolsWithoutFault();
        faultsOfLetters();
        faultsOfNumbers();
        faultsOfCounts();
        faultsOfHanding();
        endOfText();
        faultChangesNothingElse();
        newSchoolBeginsAnew();
        textThatTellsNothingEndsSchool("");
        textThatTellsNothingEndsSchool("   ");
        otherSignsAreNoBlanks();
        told();
        child();
        deed();
        check.end();
    }

    private static void newObject() {
        SatchelSins x = new SatchelSins();
        for (int what = 0; what <= 13; what++) {
            check.due("1: told(" + what + ")", x.told(what), what == 10 ? Check.NONE : 0);
        }
        check.due("1: fault()", x.fault(), Check.NONE);
        check.due("1: child(0, 0)", x.child(0, 0), Check.UNKNOWN);
        check.due("1: deed(0, 0)", x.deed(0, 0), Check.UNKNOWN);
        check.due("1: home()", x.home(), Check.NOT);
        check.due("1: drift(1)", x.drift(1), Check.NOT);
        check.due("1: drift(0)", x.drift(0), Check.OUTSIDE);
        check.due("1: undo()", x.undo(), Check.NOT);
        check.due("1: loads(NONE)", x.loads(Check.NONE), 0);
        check.due("1: fair(NONE)", x.fair(Check.NONE), Check.NONE);
        check.due("1: seed(0)", x.seed(0), 0);
        check.due("1: goBack(0)", x.goBack(0), Check.NOT);
        check.due("1: tear()", x.tear(), 0);
        check.due("1: school()", x.school(), 0);
    }

    private static void feed() {
        SatchelSins x = new SatchelSins();
        check.due("2: feed(-1)", x.feed(-1), Check.OUTSIDE);
        check.due("2: feed(256)", x.feed(256), Check.OUTSIDE);
        check.due("2: feed(0)", x.feed(0), 1);
        check.due("2: feed(255)", x.feed(255), 2);
        for (int i = 3; i <= 240; i++) {
            check.due("2: feed(32)", x.feed(32), i);
        }
        check.due("2: feed(32) to the full", x.feed(32), Check.FULL);
        check.due("2: feed(256) to the full", x.feed(256), Check.OUTSIDE);
        check.due("2: letters", x.told(3), 240);
        check.due("2: school()", x.school(), -11);
        check.due("2: letters behind school()", x.told(3), 0);
        check.due("2: feed behind school()", x.feed(98), 1);
    }

    private static void schoolsWithoutFault() {
        fine("", 0);
        fine(" ", 0);
        fine(" ".repeat(240), 0);
        fine("b0;", 0);
        fine("b999;", 0);
        fine("b000;", 0);
        fine(" b 5 ; c 1 1 ; d 0 1 ; ", 1);
        fine("b5;c99 99;c001 01;d1 99;d00 1;h1 0;", 2);
        fine("b5;c1 1;c1 1;c1 1;c1 1;c1 1;d0 1;d1 1;d2 1;d3 1;d4 1;d0 1;d0 1;h4 3;h3 2;h2 1;h1 0;", 5);
        fine("b5;c1 1;c1 1;h0 1;c1 1;d2 5;h0 2;", 3);
        fine(HILL, 3);
    }

    private static void fine(String text, int children) {
        SatchelSins x = new SatchelSins();
        check.due("3: school of '" + text + "'", Check.tell(x, text), children);
        check.due("4: fault of '" + text + "'", x.fault(), Check.NONE);
    }

    private static void faulty(String text, int number, int place) {
        SatchelSins x = new SatchelSins();
        check.due("3: school of '" + text + "'", Check.tell(x, text), -10 - number);
        check.due("4: fault of '" + text + "'", x.fault(), place);
    }

    private static void faultsOfLetters() {
        faulty("x", 1, 0);
        faulty("c1 1;", 1, 0);
        faulty("  d0 1;b5;", 1, 2);
        faulty("B5;", 1, 0);
        faulty(";", 1, 0);
        faulty("5", 1, 0);
        faulty("b;", 1, 1);
        faulty("b-1;", 1, 1);
        faulty("b5 5;", 1, 3);
        faulty("b5;;", 1, 3);
        faulty("b5;5;", 1, 3);
        faulty("b5;\tc1 1;", 1, 3);
        faulty("b5;c1;", 1, 5);
        faulty("b5;c1,1;", 1, 5);
        faulty("b5;c1 1 1;", 1, 8);
        faulty("b5;c1 1c1 1;", 1, 7);
        faulty("b5;cb;", 1, 4);
        faulty("b5;e0 1;", 1, 3);
        faulty("b5;" + (char) 255, 1, 3);
    }

    private static void faultsOfNumbers() {
        faulty("b1000;", 2, 1);
        faulty("b0000;", 2, 1);
        faulty("b 12345678901234567890;", 2, 2);
        faulty("b5;c0 1;", 2, 4);
        faulty("b5;c100 1;", 2, 4);
        faulty("b5;c1 0;", 2, 6);
        faulty("b5;c1 100;", 2, 6);
        faulty("b5;c3010;", 2, 4);
        faulty("b5;c1 1;d0 0;", 2, 11);
        faulty("b5;c1 1;d0 100;", 2, 11);
        faulty("b5;d0 1;", 2, 4);
        faulty("b5;c1 1;d1 1;", 2, 9);
        faulty("b5;c1 1;d999 1;", 2, 9);
        faulty("b5;h0 0;", 2, 4);
        faulty("b5;c1 1;h1 1;", 2, 9);
        faulty("b5;c1 1;h0 1;", 2, 11);
        faulty("b5;c0x", 2, 4);
        faulty("b1000", 2, 1);
    }

    private static void faultsOfCounts() {
        String five = "b5;c1 1;c1 1;c1 1;c1 1;c1 1;";
        String seven = "b5;c1 1;d0 1;d0 1;d0 1;d0 1;d0 1;d0 1;d0 1;";
        faulty("b5;b5;", 3, 3);
        faulty("b5; b", 3, 4);
        faulty(five + "c", 3, five.length());
        faulty(five + " c1 1;", 3, five.length() + 1);
        faulty(seven + "d", 3, seven.length());
        faulty(seven + "d9 9;", 3, seven.length());
        faulty("bb", 1, 1);
    }

    private static void faultsOfHanding() {
        String four = "b5;c1 1;c1 1;c1 1;c1 1;";
        int at = four.length();
        faulty(four + "h0 0;", 4, at + 3);
        faulty(four + "h0 1;h2 1;", 4, at + 8);
        faulty(four + "h0 1;h0 1;", 4, at + 8);
        faulty(four + "h0 1;h1 0;", 4, at + 8);
        faulty(four + "h0 1;h1 2;h2 3;h3 0;", 4, at + 18);
        faulty(four + "h0 1;h1 2;h2  0x", 4, at + 14);
        faulty(four + "h0 4;", 2, at + 3);
        faulty(four + "h4 4;", 2, at + 1);
        faulty(four + "h0 0", 4, at + 3);
        fine(four + "h0 1;h0 2;h2 3;", 4);
    }

    private static void endOfText() {
        faulty("b", 1, 1);
        faulty("b5", 1, 2);
        faulty("b5 ", 1, 3);
        faulty("b5;c", 1, 4);
        faulty("b5;c1", 1, 5);
        faulty("b5;c1 1", 1, 7);
        faulty("  b", 1, 3);
    }

    private static void faultChangesNothingElse() {
        SatchelSins x = Check.schoolOf(HILL);
        x.doIt(0);
        x.home();
        x.keep(1);
        x.doIt(1);
        x.see(0, 0, true);
        x.write(0, 20);
        x.seed(77);
        check.due("3: faulty school()", Check.tell(x, "b5;c1 1;c0 0;"), -12);
        check.due("3: letters", x.told(3), 0);
        check.due("3: brook", x.told(0), 20);
        check.due("3: children", x.told(1), 3);
        check.due("3: days", x.told(4), 1);
        check.due("3: seen", x.told(11), 1);
        check.due("3: book", x.told(12), 1);
        check.due("3: to undo", x.told(13), 1);
        check.due("3: load", x.child(0, 2), 20);
        check.due("3: from", x.child(1, 7), 0);
        check.due("3: image", x.goBack(1), 1);
    }

    private static void newSchoolBeginsAnew() {
        SatchelSins x = Check.schoolOf(HILL);
        Check.doAll(x);
        x.throwIt(0);
        x.home();
        x.keep(0);
        x.doIt(0);
        x.loads(Check.NONE);
        x.fair(Check.NONE);
        x.see(0, 0, true);
        x.write(0, 5);
        x.seed(77);
        check.due("3: second school()", Check.tell(x, "b7;c10 1;c5 2;d1 4;"), 2);
        int[] due = {7, 2, 1, 0, 0, 0, 0, 0, 0, 0, 1, 0, 0, 0};
        for (int what = 0; what < due.length; what++) {
            check.due("3: told(" + what + ") of the second", x.told(what), due[what]);
        }
        check.due("3: deed is not done", x.deed(0, 2), 0);
        check.due("3: deed is nowhere", x.deed(0, 3), Check.NONE);
        check.due("3: days lamed", x.child(1, 6), 0);
        check.due("3: from nobody", x.child(1, 7), Check.NONE);
        check.due("3: image is gone", x.goBack(0), Check.NOT);
        check.due("3: nothing to undo", x.undo(), Check.NOT);
        check.due("3: loads", x.loads(0), Check.NONE);
        check.due("3: fair", x.fair(Check.NONE), 0);
        check.due("3: the seed stays", x.seed(0), 77);
    }

    private static void textThatTellsNothingEndsSchool(String text) {
        String of = " of '" + text + "'";
        SatchelSins x = Check.schoolOf(HILL);
        x.doIt(0);
        x.keep(0);
        x.see(0, 0, true);
        x.write(0, 5);
        x.seed(77);
        check.due("3: faulty", Check.tell(x, "x"), -11);
        check.due("4: fault", x.fault(), 0);
        check.due("3: school" + of, Check.tell(x, text), 0);
        check.due("4: fault" + of, x.fault(), Check.NONE);
        for (int what = 0; what <= 13; what++) {
            check.due("3: told(" + what + ")" + of, x.told(what), what == 10 ? Check.NONE : 0);
        }
        check.due("3: child" + of, x.child(0, 0), Check.UNKNOWN);
        check.due("3: doIt" + of, x.doIt(0), Check.UNKNOWN);
        check.due("3: home" + of, x.home(), Check.NOT);
        check.due("3: drift" + of, x.drift(1), Check.NOT);
        check.due("3: goBack" + of, x.goBack(0), Check.NOT);
        check.due("3: seed" + of, x.seed(0), 77);
    }

    private static void otherSignsAreNoBlanks() {
        for (int sign : new int[] {0, 9, 10, 13, 31, 33, 160, 255}) {
            faulty("" + (char) sign, 1, 0);
            faulty("  " + (char) sign + " ", 1, 2);
        }
    }

    private static void told() {
        SatchelSins x = Check.schoolOf(HILL);
        Check.doAll(x);
        x.feed(98);
        x.carry(1, 1);
        int[] first = {20, 3, 6, 1, 0, 0, 0, 6, 0, 2, 1, 0, 0, 7};
        for (int what = 0; what < first.length; what++) {
            check.due("5: told(" + what + ")", x.told(what), first[what]);
        }
        x.throwIt(3);
        x.home();
        x.doIt(7);
        x.see(0, 1, true);
        x.write(1, 2);
        x.write(1, 2);
        int[] second = {20, 3, 6, 1, 1, 0, 8, 0, 2, 0, 2, 1, 2, 9};
        for (int what = 0; what < second.length; what++) {
            check.due("5: told(" + what + ") on the second day", x.told(what), second[what]);
        }
        check.due("5: told(-1)", x.told(-1), Check.OUTSIDE);
        check.due("5: told(14)", x.told(14), Check.OUTSIDE);
        SatchelSins alike = Check.schoolOf("b0;c10 5;c10 7;c10 7;d0 4;d1 5;d0 4;d0 4;");
        check.due("5: the last home of like ones", alike.told(10), 1);
        alike.doIt(0);
        check.due("5: 5 + 5 * 4 / 10 is 7", alike.told(10), 0);
        alike.carry(0, 1);
        check.due("5: made", alike.told(9), 2);
        alike.doIt(1);
        check.due("5: not made by 4 against 5", alike.told(9), 0);
        alike.doIt(2);
        alike.carry(2, 1);
        check.due("5: made by 8 against 5", alike.told(9), 2);
        check.due("5: lamed by 13 above 10", alike.told(7), 2);
        SatchelSins even = Check.schoolOf("b0;c10 5;c10 7;d0 4;d1 4;d1 6;");
        even.doIt(0);
        even.doIt(1);
        even.carry(0, 1);
        check.due("5: not made by 4 against 4", even.told(9), 0);
        even.carry(0, 0);
        even.doIt(2);
        check.due("5: not lamed by 10 of 10", even.told(7), 0);
    }

    private static void child() {
        SatchelSins x = Check.schoolOf(HILL);
        x.doIt(0);
        x.home();
        x.doIt(1);
        x.doIt(2);
        x.carry(1, 1);
        x.home();
        x.doIt(3);
        x.doIt(5);
        x.carry(3, 0);
        x.carry(5, 0);
        int[] zero = {30, 10, 11, 13, 40, 1, 0, Check.NONE};
        int[] one = {15, 20, 0, 20, 0, 6, 1, 0};
        int[] two = {25, 30, 0, 30, 0, 0, 0, 1};
        for (int what = 0; what < 8; what++) {
            check.due("6: child(0, " + what + ")", x.child(0, what), zero[what]);
            check.due("6: child(1, " + what + ")", x.child(1, what), one[what]);
            check.due("6: child(2, " + what + ")", x.child(2, what), two[what]);
        }
        check.due("6: child(0, 8)", x.child(0, 8), Check.OUTSIDE);
        check.due("6: child(0, -1)", x.child(0, -1), Check.OUTSIDE);
        check.due("6: child(3, 8)", x.child(3, 8), Check.UNKNOWN);
        check.due("6: child(-1, 0)", x.child(-1, 0), Check.UNKNOWN);
    }

    private static void deed() {
        SatchelSins x = Check.schoolOf(HILL);
        for (int d = 1; d < 5; d++) {
            x.doIt(d);
        }
        x.throwIt(2);
        x.carry(1, 2);
        x.home();
        x.takeBack(3);
        x.doIt(3);
        x.carry(3, 0);
        int[][] due = {{0, 12, 0, -1}, {0, 20, 3, 2}, {1, 9, 2, -1}, {1, 8, 1, 0}, {2, 25, 3, 2}, {2, 3, 0, -1}};
        for (int d = 0; d < due.length; d++) {
            for (int what = 0; what < 4; what++) {
                check.due("7: deed(" + d + ", " + what + ")", x.deed(d, what), due[d][what]);
            }
        }
        check.due("7: deed(0, 4)", x.deed(0, 4), Check.OUTSIDE);
        check.due("7: deed(0, -1)", x.deed(0, -1), Check.OUTSIDE);
        check.due("7: deed(6, 4)", x.deed(6, 4), Check.UNKNOWN);
        check.due("7: deed(-1, 0)", x.deed(-1, 0), Check.UNKNOWN);
    }
}
