/** Promises 16 to 21: loads, fair loads, swaps that lighten, weights, satchels handed down, odds. */
public final class TriedTest {
    private static final String HILL = "b20;c30 10;c15 20;c25 30;d0 12;d0 20;d1 9;d1 8;d2 25;d2 3;h0 1;h1 2;";
    private static final Check check = new Check();

    public static void main(String[] args) {
        loads();
        fair();
        loadsOfAnotherSchool();
        lighter();
        weighs();
        handed();
        light();
        nothingChanges();
        check.end();
    }

    private static void loads() {
        SatchelSins x = Check.schoolOf(HILL);
        check.due("16: nothing in satchels", x.loads(Check.NONE), 0);
        check.due("16: not done", x.loads(0), Check.NONE);
        for (int d = 0; d < 4; d++) {
            x.doIt(d);
        }
        int[] due = {0, 2, 0, 1, Check.NONE, Check.NONE};
        check.due("16: loads(NONE)", x.loads(Check.NONE), 2);
        for (int d = 0; d < due.length; d++) {
            check.due("16: loads(" + d + ")", x.loads(d), due[d]);
        }
        x.doIt(4);
        check.due("16: none fits", x.loads(Check.NONE), Check.NONE);
        check.due("16: none fits", x.loads(0), Check.NONE);
        check.due("16: no such", x.loads(6), Check.UNKNOWN);
        check.due("16: no such", x.loads(-2), Check.UNKNOWN);
        x.undo();
        check.due("16: as ahead", x.loads(Check.NONE), 2);
        check.due("16: as ahead", x.loads(1), 2);
        SatchelSins exact = Check.schoolOf("b0;c5 1;c5 1;d0 5;d0 5;");
        Check.doAll(exact);
        check.due("16: as strong as heavy", exact.loads(Check.NONE), 1);
        check.due("16: of like ones the lesser child first", exact.loads(0) * 10 + exact.loads(1), 1);
        exact.carry(0, 1);
        check.due("16: none needs to move", exact.loads(Check.NONE), 0);
        check.due("16: where they are", exact.loads(0) * 10 + exact.loads(1), 10);
        check.due("16: bare school", Check.schoolOf("b5;").loads(Check.NONE), 0);
    }

    private static void fair() {
        SatchelSins x = Check.schoolOf(HILL);
        check.due("17: nothing in satchels", x.fair(Check.NONE), 0);
        check.due("17: not done", x.fair(0), Check.NONE);
        for (int d = 0; d < 4; d++) {
            x.doIt(d);
        }
        int[] due = {0, 1, 2, 0, Check.NONE, Check.NONE};
        check.due("17: fair(NONE)", x.fair(Check.NONE), 20);
        for (int d = 0; d < due.length; d++) {
            check.due("17: fair(" + d + ")", x.fair(d), due[d]);
        }
        check.due("17: no such", x.fair(6), Check.UNKNOWN);
        check.due("17: no such", x.fair(-2), Check.UNKNOWN);
        check.due("17: no children", Check.schoolOf("b5;").fair(Check.NONE), Check.NONE);
        SatchelSins weak = Check.schoolOf("b0;c1 1;d0 99;d0 99;");
        Check.doAll(weak);
        check.due("17: lamed or not", weak.fair(Check.NONE), 198);
        check.due("17: lamed or not", weak.fair(1), 0);
    }

    private static void lighter() {
        SatchelSins x = Check.schoolOf("b0;c10 1;c10 1;c9 1;d0 6;d0 6;d1 4;d1 3;d2 9;");
        Check.doAll(x);
        // 0 has 12 of 10; 1 has 7 of 10; 2 has 9 of 9.
        int[] due = {2, 3, 12, 13};
        check.due("18: how many", x.lighter(Check.NONE), due.length);
        for (int i = 0; i < due.length; i++) {
            check.due("18: lighter(" + i + ")", x.lighter(i), due[i]);
        }
        check.due("18: behind the last", x.lighter(due.length), Check.NONE);
        check.due("18: far behind", x.lighter(Integer.MAX_VALUE), Check.NONE);
        check.due("18: ahead", x.lighter(-2), Check.NONE);
        x.carry(4, 0);
        check.due("18: still lamed behind the swap", x.lighter(Check.NONE), 0);
        SatchelSins fine = Check.schoolOf("b0;c10 1;c10 1;d0 6;d1 4;");
        Check.doAll(fine);
        check.due("18: none is lamed", fine.lighter(Check.NONE), 0);
        check.due("18: none is lamed", fine.lighter(0), Check.NONE);
        SatchelSins others = Check.schoolOf("b0;c10 1;c10 1;c10 1;d0 8;d0 8;d1 2;");
        Check.doAll(others);
        others.carry(0, 2);
        others.carry(1, 2);
        others.carry(2, 0);
        // Lamed is 2, who has both of 0; 2 for 8 helps it, whosever the deeds are.
        check.due("18: by satchels", others.lighter(Check.NONE), 2);
        check.due("18: by satchels", others.lighter(1), 12);
    }

    private static void weighs() {
        SatchelSins x = Check.schoolOf(HILL);
        int[][] due = {
            {0, 1, 0, 0, Check.NONE}, {1, 0, Check.NONE, 0, Check.NONE}, {77, 1, 63, 63, Check.NONE},
            {20, 3, 2, 0, 0}, {28, 2, 10, 0, 1}, {999, 0, Check.NONE, 0, Check.NONE}};
        for (int[] row : due) {
            for (int what = 0; what < 4; what++) {
                check.due("19: weighs(" + row[0] + ", " + what + ")", x.weighs(row[0], what), row[what + 1]);
            }
        }
        x.doIt(0);
        x.throwIt(0);
        check.due("19: any deeds", x.weighs(77, 0), 1);
        check.due("19: weighs(-1, 0)", x.weighs(-1, 0), Check.OUTSIDE);
        check.due("19: weighs(1000, 0)", x.weighs(1000, 0), Check.OUTSIDE);
        check.due("19: weighs(0, 4)", x.weighs(0, 4), Check.OUTSIDE);
        check.due("19: weighs(0, -1)", x.weighs(0, -1), Check.OUTSIDE);
        SatchelSins ones = Check.schoolOf("b0;c1 1;d0 5;d0 1;d0 1;d0 1;d0 1;");
        // With 6: the 5 and one of four others: each of those is in one of four sets.
        check.due("19: sure", ones.weighs(6, 2), 1);
        check.due("19: least", ones.weighs(6, 1), 3);
        check.due("19: look for", ones.weighs(6, 3), 1);
        // With 7: the 5 and two of four: each of those halves the six sets.
        check.due("19: how many", ones.weighs(7, 0), 6);
        check.due("19: look for", ones.weighs(7, 3), 1);
    }

    /** The same deeds in the same satchels of another school are other loads. */
    private static void loadsOfAnotherSchool() {
        SatchelSins x = Check.schoolOf("b0;c9 1;c9 1;d0 5;d0 5;");
        Check.doAll(x);
        check.due("16: one moved", x.loads(Check.NONE), 1);
        check.due("17: how great", x.fair(Check.NONE), 5);
        Check.tell(x, "b0;c19 1;c9 1;d0 6;d0 5;");
        Check.doAll(x);
        check.due("16: none moved", x.loads(Check.NONE), 0);
        check.due("16: where they are", x.loads(1), 0);
        check.due("17: how great", x.fair(Check.NONE), 6);
    }

    private static void handed() {
        SatchelSins x = Check.schoolOf("b0;c1 1;c1 1;c1 1;c1 1;c1 1;h3 0;h0 4;h3 1;");
        int[] first = {3, 3, 2, 3, 3};
        int[] had = {27, 27, 4, 27, 27};
        for (int c = 0; c < 5; c++) {
            check.due("20: first of " + c, x.handed(c, 0), first[c]);
            check.due("20: had of " + c, x.handed(c, 1), had[c]);
        }
        check.due("20: handed(0, 2)", x.handed(0, 2), Check.OUTSIDE);
        check.due("20: handed(0, -1)", x.handed(0, -1), Check.OUTSIDE);
        check.due("20: handed(5, 2)", x.handed(5, 2), Check.UNKNOWN);
        check.due("20: handed(-1, 0)", x.handed(-1, 0), Check.UNKNOWN);
    }

    private static void light() {
        SatchelSins x = new SatchelSins();
        check.due("21: light(3, 90)", x.light(3, 90), 729000000);
        check.due("21: light(0, 0)", x.light(0, 0), 1000000000);
        check.due("21: light(1, 0)", x.light(1, 0), 0);
        check.due("21: light(60, 100)", x.light(60, 100), 1000000000);
        // 3 of a hundred: 1000000000, 30000000, 900000, 27000, 810, 24, 0.
        check.due("21: cut each time", x.light(5, 3), 24);
        check.due("21: cut to nothing", x.light(6, 3), 0);
        check.due("21: light(-1, 0)", x.light(-1, 0), Check.OUTSIDE);
        check.due("21: light(61, 0)", x.light(61, 0), Check.OUTSIDE);
        check.due("21: light(0, -1)", x.light(0, -1), Check.OUTSIDE);
        check.due("21: light(0, 101)", x.light(0, 101), Check.OUTSIDE);
    }

    private static void nothingChanges() {
        SatchelSins x = Check.schoolOf(HILL);
        Check.doAll(x);
        x.loads(Check.NONE);
        x.fair(Check.NONE);
        x.lighter(0);
        x.weighs(20, 3);
        check.due("tried: load", x.child(0, 2), 32);
        check.due("tried: to undo", x.told(13), 6);
    }
}
