/** Promises 22 to 29: what is seen, the book, the seed, images. */
public final class SeenTest {
    private static final String HILL = "b20;c30 10;c15 20;c25 30;d0 12;d0 20;d1 9;d1 8;d2 25;d2 3;h0 1;h1 2;";
    private static final Check check = new Check();

    public static void main(String[] args) {
        see();
        hold();
        write();
        tear();
        judge();
        seed();
        keep();
        goBack();
        imagesOfNoSchool();
        check.end();
    }

    private static void see() {
        SatchelSins x = Check.schoolOf(HILL);
        check.due("22: no such child", x.see(3, 0, true), Check.UNKNOWN);
        check.due("22: no such child", x.see(0, 3, true), Check.UNKNOWN);
        check.due("22: no such child", x.see(-1, 0, false), Check.UNKNOWN);
        check.due("22: no such child", x.see(0, -1, false), Check.UNKNOWN);
        for (int i = 1; i <= 6; i++) {
            check.due("22: alike ones may be", x.see(1, 1, true), i);
        }
        check.due("22: full", x.see(1, 1, true), Check.FULL);
        check.due("22: unknown ahead of full", x.see(3, 1, true), Check.UNKNOWN);
        check.due("22: seen", x.told(11), 6);
    }

    private static void hold() {
        SatchelSins x = Check.schoolOf(HILL);
        check.due("23: nothing seen", x.hold(), 1);
        x.see(2, 0, true);
        check.due("23: an empty table", x.hold(), 0);
        x.doIt(0);
        x.carry(0, 2);
        check.due("23: a satchel is no table", x.hold(), 0);
        x.home();
        check.due("23: on the table", x.hold(), 1);
        x.see(0, 0, false);
        x.see(2, 2, false);
        check.due("23: others not", x.hold(), 1);
        x.doIt(5);
        x.home();
        check.due("23: another one", x.hold(), 0);
        x.takeBack(5);
        check.due("23: taken back", x.hold(), 1);
    }

    private static void write() {
        SatchelSins x = Check.schoolOf(HILL);
        check.due("24: no such child", x.write(3, 1000), Check.UNKNOWN);
        check.due("24: no such child", x.write(-1, 0), Check.UNKNOWN);
        check.due("24: write(0, -1)", x.write(0, -1), Check.OUTSIDE);
        check.due("24: write(0, 1000)", x.write(0, 1000), Check.OUTSIDE);
        for (int i = 1; i <= 15; i++) {
            check.due("24: write(0, 999)", x.write(0, i % 2 * 999), i);
        }
        check.due("24: full", x.write(0, 0), Check.FULL);
        check.due("24: outside ahead of full", x.write(0, 1000), Check.OUTSIDE);
    }

    private static void tear() {
        SatchelSins x = Check.schoolOf(HILL);
        x.see(0, 0, true);
        x.write(0, 1);
        x.write(1, 1);
        check.due("25: tear()", x.tear(), 3);
        check.due("25: nothing is left", x.told(11) + x.told(12), 0);
        check.due("25: hold()", x.hold(), 1);
        check.due("25: judge()", x.judge(), Check.NONE);
        check.due("25: tear() again", x.tear(), 0);
        check.due("25: from the front", x.write(0, 0), 1);
    }

    private static void judge() {
        SatchelSins x = Check.schoolOf(HILL);
        check.due("26: no book", x.judge(), Check.NONE);
        x.write(0, 0);
        x.write(1, 9);
        x.write(2, 3);
        check.due("26: the first", x.judge(), 1);
        x.doIt(2);
        check.due("26: the next", x.judge(), 2);
        x.doIt(5);
        check.due("26: none", x.judge(), Check.NONE);
        x.home();
        check.due("26: tables are no load", x.judge(), 1);
    }

    private static void seed() {
        SatchelSins x = new SatchelSins();
        check.due("27: seed(-1)", x.seed(-1), Check.OUTSIDE);
        check.due("27: least", x.seed(2147483647), 0);
        check.due("27: greatest", x.seed(6), 2147483647);
        check.due("27: refused", x.seed(Integer.MIN_VALUE), Check.OUTSIDE);
        check.due("27: as it was", x.seed(0), 6);
        Check.tell(x, "b5;c1 1;d0 1;");
        x.drift(1);
        // 0 becomes 12345, then 12345 * 1103515245 + 12345 left over by 2 to the 31.
        check.due("27: two draws", x.seed(0), (int) ((12345L * 1103515245L + 12345L) % 2147483648L));
    }

    private static void keep() {
        SatchelSins x = Check.schoolOf(HILL);
        x.doIt(0);
        check.due("28: keep(-1)", x.keep(-1), Check.UNKNOWN);
        check.due("28: keep(2)", x.keep(2), Check.UNKNOWN);
        check.due("28: refused", x.told(13), 1);
        check.due("28: keep(1)", x.keep(1), 1);
        check.due("28: nothing to undo", x.undo(), Check.NOT);
        check.due("28: load", x.child(0, 2), 12);
    }

    private static void goBack() {
        SatchelSins x = Check.schoolOf(HILL);
        check.due("29: goBack(2)", x.goBack(2), Check.UNKNOWN);
        check.due("29: goBack(-1)", x.goBack(-1), Check.UNKNOWN);
        check.due("29: not kept", x.goBack(0), Check.NOT);
        Check.doAll(x);
        x.throwIt(0);
        x.seed(41);
        x.keep(0);
        check.due("29: the other is not kept", x.goBack(1), Check.NOT);
        x.home();
        x.seed(42);
        x.see(0, 0, true);
        x.write(0, 3);
        x.keep(1);
        x.takeBack(1);
        check.due("29: goBack(0)", x.goBack(0), 1);
        check.due("29: day", x.told(4), 0);
        check.due("29: brook", x.told(5) * 100 + x.told(6), 1212);
        check.due("29: days lamed", x.told(8), 0);
        check.due("29: satchels", x.child(0, 4), 2);
        check.due("29: seen and book stay", x.told(11) + x.told(12), 2);
        check.due("29: nothing to undo", x.undo(), Check.NOT);
        check.due("29: the seed", x.seed(43), 41);
        check.due("29: goBack(1)", x.goBack(1), 1);
        check.due("29: day", x.told(4), 1);
        check.due("29: days lamed", x.told(8), 2);
        check.due("29: table", x.child(0, 5), 2);
        check.due("29: the seed", x.seed(0), 42);
        check.due("29: once more", x.goBack(0), 1);
        check.due("29: brook", x.told(5), 12);
        x.doIt(7);
        x.keep(0);
        x.home();
        x.keep(0);
        x.goBack(0);
        check.due("29: kept anew", x.told(4), 1);
    }

    private static void imagesOfNoSchool() {
        SatchelSins x = new SatchelSins();
        x.seed(9);
        check.due("28: without a school", x.keep(0), 1);
        x.seed(8);
        check.due("29: without a school", x.goBack(0), 1);
        check.due("29: the seed", x.seed(0), 9);
    }
}
