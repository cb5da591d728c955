import java.util.ArrayDeque;
import java.util.ArrayList;
import java.util.Arrays;
import java.util.Deque;
import java.util.List;

/** A second, plain writing of the document, without thrift: the tests hold the program against it. */
final class Model {
    private static final class Snap {
        int[] stage;
        int[] place;
        int[] lamed;
        int days;
        int today;
        int inAll;
        long seed;
    }

    private StringBuilder text = new StringBuilder();
    private int faultAt = -1;
    private boolean school = false;
    private int brook = 0;
    private List<int[]> children = new ArrayList<>();
    private List<int[]> deeds = new ArrayList<>();
    private Snap now = new Snap();
    private final Deque<Snap> undo = new ArrayDeque<>();
    private final Snap[] images = new Snap[2];
    private final List<int[]> seen = new ArrayList<>();
    private final List<int[]> book = new ArrayList<>();

    Model() {
        fresh();
    }

    private void fresh() {
        long seed = now.seed;
        now = new Snap();
        now.seed = seed;
        now.stage = new int[deeds.size()];
        now.place = new int[deeds.size()];
        Arrays.fill(now.place, -1);
        now.lamed = new int[children.size()];
        undo.clear();
        seen.clear();
        book.clear();
        images[0] = null;
        images[1] = null;
    }

    private Snap copy() {
        Snap s = new Snap();
        s.stage = now.stage.clone();
        s.place = now.place.clone();
        s.lamed = now.lamed.clone();
        s.days = now.days;
        s.today = now.today;
        s.inAll = now.inAll;
        s.seed = now.seed;
        return s;
    }

    private void remember() {
        undo.addLast(copy());
        if (undo.size() > 20) {
            undo.removeFirst();
        }
    }

    int feed(int letter) {
        if (letter < 0 || letter > 255) return Check.OUTSIDE;
        if (text.length() == 240) return Check.FULL;
        text.append((char) letter);
        return text.length();
    }

    /** Tokens: {start, kind}; kind is the letter, or -2 - value for numbers, or -5000 for four figures; the end is -1. */
    private static List<int[]> tokens(String t) {
        List<int[]> all = new ArrayList<>();
        int i = 0;
        while (i < t.length()) {
            char k = t.charAt(i);
            if (k == ' ') {
                i++;
            } else if (Character.digit(k, 10) >= 0 && k < 128) {
                int j = i;
                while (j < t.length() && "0123456789".indexOf(t.charAt(j)) >= 0) j++;
                all.add(new int[] {i, j - i > 3 ? -5000 : -2 - Integer.parseInt(t.substring(i, j))});
                i = j;
            } else {
                all.add(new int[] {i, k});
                i++;
            }
        }
        all.add(new int[] {t.length(), -1});
        return all;
    }

    int school() {
        String t = text.toString();
        text = new StringBuilder();
        List<int[]> kids = new ArrayList<>();
        List<int[]> dids = new ArrayList<>();
        int[] fault = t.replace(" ", "").isEmpty() ? null : readAll(t, kids, dids);
        if (fault != null && fault[0] > 0) {
            faultAt = fault[1];
            return -10 - fault[0];
        }
        faultAt = -1;
        school = fault != null;
        brook = fault == null ? 0 : fault[1];
        children = kids;
        deeds = dids;
        fresh();
        return kids.size();
    }

    /** {fault, place}, or {0, the brook}. */
    private static int[] readAll(String t, List<int[]> kids, List<int[]> dids) {
        List<int[]> tok = tokens(t);
        int water = -1;
        int p = 0;
        while (p == 0 || tok.get(p)[1] != -1) {
            int[] word = tok.get(p);
            int k = word[1];
            if (p == 0 ? k != 'b' : k != 'b' && k != 'c' && k != 'd' && k != 'h') return new int[] {1, word[0]};
            if (p > 0 && k == 'b' || k == 'c' && kids.size() == 5 || k == 'd' && dids.size() == 7) {
                return new int[] {3, word[0]};
            }
            int many = k == 'b' ? 1 : 2;
            int[] value = new int[2];
            for (int i = 0; i < many; i++) {
                int[] number = tok.get(p + 1 + i);
                if (number[1] > -2) return new int[] {1, number[0]};
                value[i] = number[1] == -5000 ? 5000 : -2 - number[1];
                boolean isChild = k == 'h' || k == 'd' && i == 0;
                int low = k == 'b' || isChild ? 0 : 1;
                int high = k == 'b' ? 999 : isChild ? kids.size() - 1 : 99;
                if (value[i] < low || value[i] > high) return new int[] {2, number[0]};
            }
            if (k == 'h') {
                boolean bad = value[0] == value[1] || kids.get(value[1])[2] >= 0;
                for (int up = kids.get(value[0])[2]; up >= 0; up = kids.get(up)[2]) bad |= up == value[1];
                if (bad) return new int[] {4, tok.get(p + 2)[0]};
            }
            int[] stop = tok.get(p + 1 + many);
            if (stop[1] != ';') return new int[] {1, stop[0]};
            if (k == 'b') water = value[0];
            if (k == 'c') kids.add(new int[] {value[0], value[1], -1});
            if (k == 'd') dids.add(new int[] {value[0], value[1]});
            if (k == 'h') kids.get(value[1])[2] = value[0];
            p += many + 2;
        }
        return new int[] {0, water};
    }

    int fault() {
        return faultAt;
    }

    private int load(int c) {
        int sum = 0;
        for (int d = 0; d < deeds.size(); d++) if (now.stage[d] == 1 && now.place[d] == c) sum += deeds.get(d)[1];
        return sum;
    }

    private int minutes(int c) {
        return children.get(c)[1] + children.get(c)[1] * load(c) / children.get(c)[0];
    }

    private int lamed() {
        int set = 0;
        for (int c = 0; c < children.size(); c++) if (load(c) > children.get(c)[0]) set += 1 << c;
        return set;
    }

    int told(int what) {
        int answer = 0;
        switch (what) {
            case 0: return brook;
            case 1: return children.size();
            case 2: return deeds.size();
            case 3: return text.length();
            case 4: return now.days;
            case 5: return now.today;
            case 6: return now.inAll;
            case 7: return lamed();
            case 8: return Arrays.stream(now.lamed).sum();
            case 9:
                for (int c = 0; c < children.size(); c++) {
                    int own = 0;
                    int others = 0;
                    for (int d = 0; d < deeds.size(); d++) {
                        if (now.stage[d] != 1 || now.place[d] != c) continue;
                        if (deeds.get(d)[0] == c) own += deeds.get(d)[1];
                        else others += deeds.get(d)[1];
                    }
                    if (others > own) answer |= 1 << c;
                }
                return answer;
            case 10:
                answer = -1;
                for (int c = children.size() - 1; c >= 0; c--) {
                    if (answer < 0 || minutes(c) >= minutes(answer)) answer = c;
                }
                return answer;
            case 11: return seen.size();
            case 12: return book.size();
            case 13: return undo.size();
            default: return Check.OUTSIDE;
        }
    }

    private int set(int stage, int c) {
        int set = 0;
        for (int d = 0; d < deeds.size(); d++) if (now.stage[d] == stage && now.place[d] == c) set += 1 << d;
        return set;
    }

    private boolean isChild(int c) {
        return c >= 0 && c < children.size();
    }

    private boolean isDeed(int d) {
        return d >= 0 && d < deeds.size();
    }

    int child(int c, int what) {
        if (!isChild(c)) return Check.UNKNOWN;
        if (what < 0 || what > 7) return Check.OUTSIDE;
        int[] kid = children.get(c);
        return new int[] {kid[0], kid[1], load(c), minutes(c), set(1, c), set(3, c), now.lamed[c], kid[2]}[what];
    }

    int deed(int d, int what) {
        if (!isDeed(d)) return Check.UNKNOWN;
        if (what < 0 || what > 3) return Check.OUTSIDE;
        return new int[] {deeds.get(d)[0], deeds.get(d)[1], now.stage[d], now.place[d]}[what];
    }

    int doIt(int d) {
        if (!isDeed(d)) return Check.UNKNOWN;
        if (now.stage[d] != 0) return Check.NOT;
        remember();
        now.stage[d] = 1;
        now.place[d] = deeds.get(d)[0];
        return load(now.place[d]);
    }

    int carry(int d, int c) {
        if (!isDeed(d) || !isChild(c)) return Check.UNKNOWN;
        if (now.stage[d] != 1 || now.place[d] == c) return Check.NOT;
        remember();
        now.place[d] = c;
        return load(c);
    }

    int swap(int d, int e) {
        if (!isDeed(d) || !isDeed(e) || d == e) return Check.UNKNOWN;
        if (now.stage[d] != 1 || now.stage[e] != 1 || now.place[d] == now.place[e]) return Check.NOT;
        remember();
        int p = now.place[d];
        now.place[d] = now.place[e];
        now.place[e] = p;
        return 1;
    }

    int throwIt(int d) {
        if (!isDeed(d)) return Check.UNKNOWN;
        int w = deeds.get(d)[1];
        if (now.stage[d] != 1 || now.today + w > brook) return Check.NOT;
        remember();
        now.stage[d] = 2;
        now.place[d] = -1;
        now.today += w;
        now.inAll = Math.min(999999, now.inAll + w);
        return now.today;
    }

    private int goHome() {
        int set = lamed();
        for (int c = 0; c < children.size(); c++) if ((set & 1 << c) != 0) now.lamed[c]++;
        for (int d = 0; d < deeds.size(); d++) if (now.stage[d] == 1) now.stage[d] = 3;
        now.days++;
        now.today = 0;
        return set;
    }

    int home() {
        if (!school) return Check.NOT;
        if (now.days > 9000) return Check.FULL;
        remember();
        return goHome();
    }

    int takeBack(int d) {
        if (!isDeed(d)) return Check.UNKNOWN;
        if (now.stage[d] != 3) return Check.NOT;
        remember();
        int p = now.place[d];
        now.stage[d] = 0;
        now.place[d] = -1;
        return p;
    }

    private int draw(int n) {
        now.seed = (now.seed * 1103515245L + 12345L) % 2147483648L;
        return (int) (now.seed / 65536 % n);
    }

    int drift(int n) {
        if (n < 1 || n > 60) return Check.OUTSIDE;
        if (!school) return Check.NOT;
        if (now.days > 9000) return Check.FULL;
        remember();
        Snap before = undo.removeLast();
        for (int i = 0; i < n && !deeds.isEmpty(); i++) {
            int d = draw(deeds.size());
            int way = draw(4);
            // The steps of a drift are one step to undo: theirs are dropped again.
            Deque<Snap> saved = new ArrayDeque<>(undo);
            if (way == 0) doIt(d);
            if (way == 1) throwIt(d);
            if (way == 2) carry(d, (now.place[d] + 1) % children.size());
            if (way == 3) goHome();
            undo.clear();
            undo.addAll(saved);
        }
        undo.addLast(before);
        return now.days;
    }

    int undo() {
        if (undo.isEmpty()) return Check.NOT;
        long seed = now.seed;
        now = undo.removeLast();
        now.seed = seed;
        return undo.size();
    }

    /** All ways at once, one by one, in their order: {cost, child of each deed}; null if there is none. */
    private int[] pack(boolean fair) {
        int n = children.size();
        int m = deeds.size();
        if (n == 0) return fair ? null : new int[1];
        int[] best = null;
        for (long code = 0; code < Math.round(Math.pow(n, m)); code++) {
            int[] way = new int[m + 1];
            long rest = code;
            boolean isFine = true;
            for (int d = m - 1; d >= 0; d--) {
                way[d + 1] = (int) (rest % n);
                rest /= n;
                // One code alone stands for a deed that is in no satchel.
                if (now.stage[d] != 1) {
                    isFine &= way[d + 1] == 0;
                    way[d + 1] = -1;
                }
            }
            if (!isFine) continue;
            int[] loads = new int[n];
            int moved = 0;
            for (int d = 0; d < m; d++) {
                if (way[d + 1] < 0) continue;
                loads[way[d + 1]] += deeds.get(d)[1];
                if (way[d + 1] != now.place[d]) moved++;
            }
            for (int c = 0; c < n && !fair; c++) isFine &= loads[c] <= children.get(c)[0];
            way[0] = fair ? Arrays.stream(loads).max().getAsInt() : moved;
            if (isFine && (best == null || way[0] < best[0])) best = way;
        }
        return best;
    }

    private int packed(boolean fair, int d) {
        if (d != -1 && !isDeed(d)) return Check.UNKNOWN;
        int[] best = pack(fair);
        return best == null ? -1 : best[d + 1];
    }

    int loads(int d) {
        return packed(false, d);
    }

    int fair(int d) {
        return packed(true, d);
    }

    int lighter(int i) {
        List<Integer> pairs = new ArrayList<>();
        for (int code = 0; code < 100; code++) {
            int d = code / 10;
            int e = code % 10;
            if (d >= e || !isDeed(e) || now.stage[d] != 1 || now.stage[e] != 1) continue;
            int a = now.place[d];
            int b = now.place[e];
            if (a == b || (lamed() & (1 << a | 1 << b)) == 0) continue;
            now.place[d] = b;
            now.place[e] = a;
            if ((lamed() & (1 << a | 1 << b)) == 0) pairs.add(code);
            now.place[d] = a;
            now.place[e] = b;
        }
        if (i == -1) return pairs.size();
        return i >= 0 && i < pairs.size() ? pairs.get(i) : -1;
    }

    int weighs(int w, int what) {
        if (w < 0 || w > 999 || what < 0 || what > 3) return Check.OUTSIDE;
        List<Integer> sets = new ArrayList<>();
        for (int s = 0; s < 1 << deeds.size(); s++) {
            int sum = 0;
            for (int d = 0; d < deeds.size(); d++) if ((s & 1 << d) != 0) sum += deeds.get(d)[1];
            if (sum == w) sets.add(s);
        }
        if (what == 0) return sets.size();
        if (what == 1) return sets.isEmpty() ? -1 : sets.get(0);
        if (what == 2) return sets.isEmpty() ? 0 : sets.stream().reduce((a, b) -> a & b).get();
        int best = -1;
        int part = sets.size();
        for (int d = 0; d < deeds.size(); d++) {
            int bit = 1 << d;
            int in = (int) sets.stream().filter(s -> (s & bit) != 0).count();
            int most = Math.max(in, sets.size() - in);
            if (in > 0 && in < sets.size() && most < part) {
                part = most;
                best = d;
            }
        }
        return best;
    }

    private int first(int c) {
        return children.get(c)[2] < 0 ? c : first(children.get(c)[2]);
    }

    int handed(int c, int what) {
        if (!isChild(c)) return Check.UNKNOWN;
        if (what < 0 || what > 1) return Check.OUTSIDE;
        if (what == 0) return first(c);
        int set = 0;
        for (int e = 0; e < children.size(); e++) if (first(e) == first(c)) set |= 1 << e;
        return set;
    }

    int light(int n, int q) {
        if (n < 0 || n > 60 || q < 0 || q > 100) return Check.OUTSIDE;
        return n == 0 ? 1000000000 : (int) ((long) light(n - 1, q) * q / 100);
    }

    int see(int c, int e, boolean is) {
        if (!isChild(c) || !isChild(e)) return Check.UNKNOWN;
        if (seen.size() == 6) return Check.FULL;
        seen.add(new int[] {c, e, is ? 1 : 0});
        return seen.size();
    }

    int hold() {
        for (int[] s : seen) {
            int lies = 0;
            for (int d = 0; d < deeds.size(); d++) if ((set(3, s[0]) & 1 << d) != 0 && deeds.get(d)[0] == s[1]) lies = 1;
            if (lies != s[2]) return 0;
        }
        return 1;
    }

    int write(int c, int load) {
        if (!isChild(c)) return Check.UNKNOWN;
        if (load < 0 || load > 999) return Check.OUTSIDE;
        if (book.size() == 15) return Check.FULL;
        book.add(new int[] {c, load});
        return book.size();
    }

    int tear() {
        int both = seen.size() + book.size();
        seen.clear();
        book.clear();
        return both;
    }

    int judge() {
        for (int i = 0; i < book.size(); i++) if (load(book.get(i)[0]) != book.get(i)[1]) return i;
        return -1;
    }

    int seed(int v) {
        if (v < 0) return Check.OUTSIDE;
        int was = (int) now.seed;
        now.seed = v;
        return was;
    }

    int keep(int i) {
        if (i < 0 || i > 1) return Check.UNKNOWN;
        images[i] = copy();
        undo.clear();
        return 1;
    }

    int goBack(int i) {
        if (i < 0 || i > 1) return Check.UNKNOWN;
        if (images[i] == null) return Check.NOT;
        now = images[i];
        images[i] = copy();
        undo.clear();
        return 1;
    }
}
