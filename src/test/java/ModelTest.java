import java.util.Random;

/** Runs of calls by chance, each answer held against the model's. */
public final class ModelTest {
    private static final int RUNS = 1200;
    private static final int CALLS = 512;
    private static final int[] ODD = {-1, -2, Integer.MIN_VALUE, Integer.MAX_VALUE, 7, 8, 60, 61, 999, 1000};

    private static final Check check = new Check();
    private static Random chance;
    private static SatchelSins x;
    private static Model m;
    private static int run;

    public static void main(String[] args) {
        for (run = 0; run < RUNS; run++) {
            chance = new Random(run);
            x = new SatchelSins();
            m = new Model();
            int left = CALLS;
            if (run % 10 != 0) {
                left -= tell(run % 3 == 0 ? spoilt(anySchool()) : anySchool());
            }
            while (left > 0) {
                left -= chance.nextInt(150) == 0 ? tell(spoilt(anySchool())) : anyCall();
            }
        }
        check.end();
    }

    private static int below(int n) {
        return chance.nextInt(n);
    }

    /** Mostly 0 .. n - 1, at times out of it. */
    private static int about(int n) {
        return below(25) == 0 ? ODD[below(ODD.length)] : below(n);
    }

    private static String blank() {
        return below(8) == 0 ? " " : "";
    }

    private static String anySchool() {
        int heavy = below(3) == 0 ? 99 : 12;
        int strong = below(3) == 0 ? 99 : 30;
        StringBuilder text = new StringBuilder(blank()).append("b").append(below(2) == 0 ? below(1000) : below(30)).append(";");
        int children = below(6);
        for (int c = 0; c < children; c++) {
            text.append(blank()).append("c").append(1 + below(strong)).append(" ").append(1 + below(99)).append(blank()).append(";");
        }
        int deeds = children == 0 ? 0 : below(3) == 0 ? below(8) : 7;
        for (int d = 0; d < deeds; d++) {
            text.append("d").append(blank()).append(below(children)).append(" ").append(1 + below(heavy)).append(";").append(blank());
        }
        // Only from the greater to the lesser: no ring comes of it.
        for (int b = 0; b + 1 < children; b++) {
            if (below(2) == 0) {
                text.append("h").append(b + 1 + below(children - b - 1)).append(" ").append(b).append(";");
            }
        }
        return text.toString();
    }

    private static String spoilt(String text) {
        if (below(20) == 0) {
            return " ".repeat(below(4));
        }
        String signs = "bcdh; 0123456789xB";
        StringBuilder made = new StringBuilder(text);
        for (int i = below(4); i > 0; i--) {
            int at = below(made.length() + 1);
            String sign = below(6) == 0 ? "h" + below(6) + " " + below(6) + ";" : "" + signs.charAt(below(signs.length()));
            switch (below(3)) {
                case 0: made.insert(at, sign); break;
                case 1: if (at < made.length()) made.deleteCharAt(at); break;
                default: if (at < made.length()) made.replace(at, at + 1, sign); break;
            }
        }
        return made.substring(0, below(20) == 0 ? below(made.length() + 1) : made.length());
    }

    private static int tell(String text) {
        for (int i = 0; i < text.length(); i++) {
            due("feed", x.feed(text.charAt(i)), m.feed(text.charAt(i)));
        }
        due("school of '" + text + "'", x.school(), m.school());
        due("fault of '" + text + "'", x.fault(), m.fault());
        return text.length() + 2;
    }

    private static void due(String call, int got, int want) {
        check.due("run " + run + ": " + call, got, want);
    }

    private static int anyCall() {
        int d = about(7);
        int e = about(7);
        int c = about(5);
        int k = about(5);
        int n = about(61);
        int w = about(below(2) == 0 ? 1000 : 100);
        int what = about(15);
        int few = about(5);
        boolean is = chance.nextBoolean();
        switch (below(40)) {
            case 0: due("feed(" + w + ")", x.feed(w), m.feed(w)); break;
            case 1: case 2: case 3: due("told(" + what + ")", x.told(what), m.told(what)); break;
            case 4: case 5: due("child(" + c + ", " + what + ")", x.child(c, what), m.child(c, what)); break;
            case 6: case 7: due("deed(" + d + ", " + few + ")", x.deed(d, few), m.deed(d, few)); break;
            case 8: case 9: case 10: case 11: case 12: due("doIt(" + d + ")", x.doIt(d), m.doIt(d)); break;
            case 13: case 14: case 15: due("carry(" + d + ", " + c + ")", x.carry(d, c), m.carry(d, c)); break;
            case 16: case 17: due("swap(" + d + ", " + e + ")", x.swap(d, e), m.swap(d, e)); break;
            case 18: due("throwIt(" + d + ")", x.throwIt(d), m.throwIt(d)); break;
            case 19: due("home()", x.home(), m.home()); break;
            case 20: case 21: case 22: due("takeBack(" + d + ")", x.takeBack(d), m.takeBack(d)); break;
            case 23: due("drift(" + n + ")", x.drift(n), m.drift(n)); break;
            case 24: due("undo()", x.undo(), m.undo()); break;
            case 25: due("loads(" + (d - 1) + ")", x.loads(d - 1), m.loads(d - 1)); break;
            case 26: due("fair(" + (d - 1) + ")", x.fair(d - 1), m.fair(d - 1)); break;
            case 27: case 28: due("lighter(" + (few - 1) + ")", x.lighter(few - 1), m.lighter(few - 1)); break;
            case 29: case 30: due("weighs(" + w + ", " + few + ")", x.weighs(w, few), m.weighs(w, few)); break;
            case 31: due("handed(" + c + ", " + few % 3 + ")", x.handed(c, few % 3), m.handed(c, few % 3)); break;
            case 32: due("light(" + n + ", " + w % 102 + ")", x.light(n, w % 102), m.light(n, w % 102)); break;
            case 33: due("see(" + c + ", " + k + ", " + is + ")", x.see(c, k, is), m.see(c, k, is)); break;
            case 34: due("hold()", x.hold(), m.hold()); break;
            case 35: bookCall(c, below(2) == 0 ? Math.max(0, m.child(c, 2)) : w); break;
            case 36: due("judge()", x.judge(), m.judge()); break;
            case 37: int v = below(9) == 0 ? -1 - below(9) : below(Integer.MAX_VALUE); due("seed(" + v + ")", x.seed(v), m.seed(v)); break;
            case 38: due("keep(" + few % 3 + ")", x.keep(few % 3), m.keep(few % 3)); break;
            default: due("goBack(" + few % 3 + ")", x.goBack(few % 3), m.goBack(few % 3)); break;
        }
        return 1;
    }

    private static void bookCall(int c, int load) {
        if (below(12) == 0) {
            due("tear()", x.tear(), m.tear());
        } else {
            due("write(" + c + ", " + load + ")", x.write(c, load), m.write(c, load));
        }
    }
}
