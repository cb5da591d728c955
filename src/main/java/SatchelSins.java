import java.util.Arrays;

/** A school on a hill whose satchels carry home what was done; see README.md for the use of it. */
public final class SatchelSins {
    public static final int NONE = -1, UNKNOWN = -1000000001, OUTSIDE = -1000000002, NOT = -1000000003, FULL = -1000000004;

    private static final int MOST_LETTERS = 240;
    private static final int MOST_CHILDREN = 5;
    private static final int MOST_DEEDS = 7;
    private static final int MOST_SEEN = 6;
    private static final int MOST_ENTRIES = 15;
    private static final int MOST_UNDONE = 20;
    private static final int MOST_IMAGES = 2;
    private static final int MOST_DRIFT = 60;
    private static final int MOST_LIGHT_DAYS = 60;
    private static final int MOST_WEIGHT = 999;
    private static final int MOST_TAKEN = 999999;
    private static final int LAST_DAY = 9000;
    private static final int BILLION = 1000000000;
    private static final int HUNDRED = 100;

    private static final int NOT_DONE = 0, IN_SATCHEL = 1, IN_BROOK = 2, ON_TABLE = 3;

    private final int[] text = new int[MOST_LETTERS];
    private int letters;
    private int faultAt = NONE;
    private final Roll roll = new Roll();
    private final Roll draft = new Roll();
    private final Reader reader = new Reader(text, draft);
    private final Day day = new Day(roll);
    private final Past past = new Past();
    private final Image[] images = new Image[MOST_IMAGES];
    private final Packing unlamed = new Packing(roll, day, false);
    private final Packing fairest = new Packing(roll, day, true);
    private final Scale scale = new Scale(roll);
    private final Slate slate = new Slate();
    private int drawn;

    public SatchelSins() {
        for (int i = 0; i < images.length; i++) {
            images[i] = new Image();
        }
    }

    // ---- the school

    public int feed(int letter) {
        if (letter < 0 || letter > 255) {
            return OUTSIDE;
        }
        if (letters >= text.length) {
            return FULL;
        }
        text[letters] = letter;
        letters++;
        return letters;
    }

    public int school() {
        int fault = reader.readText(letters);
        letters = 0;
        faultAt = reader.faultPlace();
        if (fault != 0) {
            return -10 - fault;
        }
        roll.copyFrom(draft);
        beginAnew();
        return roll.children;
    }

    public int fault() {
        return faultAt;
    }

    public int told(int what) {
        switch (what) {
            case 0: return roll.brook;
            case 1: return roll.children;
            case 2: return roll.deeds;
            case 3: return letters;
            case 4: return day.days();
            case 5: return day.takenThisDay();
            case 6: return day.takenInAll();
            case 7: return day.lamedSet();
            case 8: return day.lamedDaysOfAll();
            case 9: return day.madeSet();
            case 10: return day.lastHome();
            case 11: return slate.seen;
            case 12: return slate.entries;
            case 13: return past.count;
            default: return OUTSIDE;
        }
    }

    public int child(int c, int what) {
        if (!roll.hasChild(c)) {
            return UNKNOWN;
        }
        switch (what) {
            case 0: return roll.strong[c];
            case 1: return roll.minutes[c];
            case 2: return day.loadOf(c);
            case 3: return day.minutesHome(c);
            case 4: return day.deedSet(IN_SATCHEL, c);
            case 5: return day.deedSet(ON_TABLE, c);
            case 6: return day.lamedDays(c);
            case 7: return roll.from[c];
            default: return OUTSIDE;
        }
    }

    public int deed(int d, int what) {
        if (!roll.hasDeed(d)) {
            return UNKNOWN;
        }
        switch (what) {
            case 0: return roll.owner[d];
            case 1: return roll.weight[d];
            case 2: return day.stageOf(d);
            case 3: return day.placeOf(d);
            default: return OUTSIDE;
        }
    }

    // ---- what is done

    public int doIt(int d) {
        if (!roll.hasDeed(d)) {
            return UNKNOWN;
        }
        if (!day.canBeDone(d)) {
            return NOT;
        }
        past.push(day.row);
        day.putInOwnSatchel(d);
        return day.loadOf(roll.owner[d]);
    }

    public int carry(int d, int c) {
        if (!roll.hasDeed(d) || !roll.hasChild(c)) {
            return UNKNOWN;
        }
        if (!day.canBeCarried(d, c)) {
            return NOT;
        }
        past.push(day.row);
        day.putInSatchel(d, c);
        return day.loadOf(c);
    }

    public int swap(int d, int e) {
        if (!roll.hasDeed(d) || !roll.hasDeed(e) || d == e) {
            return UNKNOWN;
        }
        if (!day.areInUnlikeSatchels(d, e)) {
            return NOT;
        }
        past.push(day.row);
        day.changePlaces(d, e);
        return 1;
    }

    public int throwIt(int d) {
        if (!roll.hasDeed(d)) {
            return UNKNOWN;
        }
        if (!day.canBeThrown(d)) {
            return NOT;
        }
        past.push(day.row);
        day.putInBrook(d);
        return day.takenThisDay();
    }

    public int home() {
        if (!roll.isTold) {
            return NOT;
        }
        if (day.days() > LAST_DAY) {
            return FULL;
        }
        past.push(day.row);
        return day.allGoHome();
    }

    public int takeBack(int d) {
        if (!roll.hasDeed(d)) {
            return UNKNOWN;
        }
        if (day.stageOf(d) != ON_TABLE) {
            return NOT;
        }
        int table = day.placeOf(d);
        past.push(day.row);
        day.putNowhere(d);
        return table;
    }

    public int drift(int n) {
        if (n < 1 || n > MOST_DRIFT) {
            return OUTSIDE;
        }
        if (!roll.isTold) {
            return NOT;
        }
        if (day.days() > LAST_DAY) {
            return FULL;
        }
        past.push(day.row);
        if (roll.deeds > 0) {
            for (int i = 0; i < n; i++) {
                driftOnce();
            }
        }
        return day.days();
    }

    public int undo() {
        if (past.count < 1) {
            return NOT;
        }
        past.pop(day.row);
        return past.count;
    }

    // ---- tried

    public int loads(int d) {
        return packed(unlamed, d);
    }

    public int fair(int d) {
        return packed(fairest, d);
    }

    public int lighter(int i) {
        int pairs = 0;
        for (int d = 0; d < roll.deeds; d++) {
            for (int e = d + 1; e < roll.deeds; e++) {
                if (day.isLightenedBySwap(d, e)) {
                    if (pairs == i) {
                        return 10 * d + e;
                    }
                    pairs++;
                }
            }
        }
        return i == NONE ? pairs : NONE;
    }

    public int weighs(int w, int what) {
        if (w < 0 || w > MOST_WEIGHT || what < 0 || what > 3) {
            return OUTSIDE;
        }
        scale.tryAllSets(w);
        switch (what) {
            case 0: return scale.sets;
            case 1: return scale.least;
            case 2: return scale.sure;
            default: return scale.bestToLookFor();
        }
    }

    public int handed(int c, int what) {
        if (!roll.hasChild(c)) {
            return UNKNOWN;
        }
        switch (what) {
            case 0: return roll.firstOf(c);
            case 1: return roll.allWithFirst(roll.firstOf(c));
            default: return OUTSIDE;
        }
    }

    public int light(int n, int q) {
        if (n < 0 || n > MOST_LIGHT_DAYS || q < 0 || q > HUNDRED) {
            return OUTSIDE;
        }
        long odds = BILLION;
        for (int i = 0; i < n; i++) {
            odds = odds * q / HUNDRED;
        }
        return (int) odds;
    }

    // ---- what is seen

    public int see(int c, int e, boolean is) {
        if (!roll.hasChild(c) || !roll.hasChild(e)) {
            return UNKNOWN;
        }
        if (slate.seen >= MOST_SEEN) {
            return FULL;
        }
        slate.addSeen(c, e, is);
        return slate.seen;
    }

    public int hold() {
        return slate.firstUntrue(day) == NONE ? 1 : 0;
    }

    public int write(int c, int load) {
        if (!roll.hasChild(c)) {
            return UNKNOWN;
        }
        if (load < 0 || load > MOST_WEIGHT) {
            return OUTSIDE;
        }
        if (slate.entries >= MOST_ENTRIES) {
            return FULL;
        }
        slate.addEntry(c, load);
        return slate.entries;
    }

    public int tear() {
        int had = slate.seen + slate.entries;
        slate.wipe();
        return had;
    }

    public int judge() {
        return slate.firstWrong(day);
    }

    // ---- draws, images

    public int seed(int v) {
        if (v < 0) {
            return OUTSIDE;
        }
        int was = drawn;
        drawn = v;
        return was;
    }

    public int keep(int i) {
        if (i < 0 || i >= images.length) {
            return UNKNOWN;
        }
        images[i].take(day.row, drawn);
        past.wipe();
        return 1;
    }

    public int goBack(int i) {
        if (i < 0 || i >= images.length) {
            return UNKNOWN;
        }
        if (!images[i].isKept) {
            return NOT;
        }
        images[i].giveTo(day.row);
        drawn = images[i].drawn;
        past.wipe();
        return 1;
    }

    private void beginAnew() {
        day.wipe();
        past.wipe();
        slate.wipe();
        unlamed.forget();
        fairest.forget();
        for (int i = 0; i < images.length; i++) {
            images[i].isKept = false;
        }
    }

    private int packed(Packing packing, int d) {
        if (d == NONE) {
            return packing.leastCost();
        }
        return roll.hasDeed(d) ? packing.childFor(d) : UNKNOWN;
    }

    private void driftOnce() {
        int d = draw(roll.deeds);
        switch (draw(4)) {
            case 0:
                if (day.canBeDone(d)) {
                    day.putInOwnSatchel(d);
                }
                break;
            case 1:
                if (day.canBeThrown(d)) {
                    day.putInBrook(d);
                }
                break;
            case 2:
                int next = roll.childAfter(day.placeOf(d));
                if (day.canBeCarried(d, next)) {
                    day.putInSatchel(d, next);
                }
                break;
            default:
                day.allGoHome();
                break;
        }
    }

    private int draw(int n) {
        drawn = (int) ((drawn * 1103515245L + 12345L) & 2147483647L);
        return n > 0 ? drawn / 65536 % n : 0;
    }

    /** What a text tells of a school. */
    private static final class Roll {
        boolean isTold;
        int brook;
        int children;
        int deeds;
        final int[] strong = new int[MOST_CHILDREN];
        final int[] minutes = new int[MOST_CHILDREN];
        final int[] from = new int[MOST_CHILDREN];
        final int[] owner = new int[MOST_DEEDS];
        final int[] weight = new int[MOST_DEEDS];

        void wipe() {
            isTold = false;
            brook = 0;
            children = 0;
            deeds = 0;
        }

        void copyFrom(Roll other) {
            isTold = other.isTold;
            brook = other.brook;
            children = other.children;
            deeds = other.deeds;
            System.arraycopy(other.strong, 0, strong, 0, MOST_CHILDREN);
            System.arraycopy(other.minutes, 0, minutes, 0, MOST_CHILDREN);
            System.arraycopy(other.from, 0, from, 0, MOST_CHILDREN);
            System.arraycopy(other.owner, 0, owner, 0, MOST_DEEDS);
            System.arraycopy(other.weight, 0, weight, 0, MOST_DEEDS);
        }

        void addChild(int itsStrength, int itsMinutes) {
            if (children < MOST_CHILDREN) {
                strong[children] = itsStrength;
                minutes[children] = itsMinutes;
                from[children] = NONE;
                children++;
            }
        }

        void addDeed(int itsOwner, int itsWeight) {
            if (deeds < MOST_DEEDS) {
                owner[deeds] = itsOwner;
                weight[deeds] = itsWeight;
                deeds++;
            }
        }

        boolean hasChild(int c) {
            return c >= 0 && c < children;
        }

        boolean hasDeed(int d) {
            return d >= 0 && d < deeds;
        }

        int childAfter(int c) {
            return hasChild(c + 1) ? c + 1 : 0;
        }

        boolean canHandDown(int giver, int taker) {
            return giver != taker && from[taker] == NONE && !hasItFrom(giver, taker);
        }

        private boolean hasItFrom(int c, int giver) {
            int before = c;
            for (int step = 0; step < children && hasChild(before); step++) {
                before = from[before];
                if (before == giver) {
                    return true;
                }
            }
            return false;
        }

        int firstOf(int c) {
            int first = c;
            // No ring can be told, so a chain has fewer steps than there are children.
            for (int step = 0; step < children; step++) {
                if (hasChild(first) && from[first] != NONE) {
                    first = from[first];
                }
            }
            return first;
        }

        int allWithFirst(int first) {
            int set = 0;
            for (int c = 0; c < children; c++) {
                if (firstOf(c) == first) {
                    set |= 1 << c;
                }
            }
            return set;
        }
    }

    /** Reads a text into a roll, up to the first fault. */
    private static final class Reader {
        private static final int CANNOT_STAND = 1, BAD_NUMBER = 2, TOO_MANY = 3, BAD_HANDING = 4;
        private static final int MOST_FIGURES = 3;
        private static final int MOST_TOLD = 99;

        private final int[] text;
        private final Roll roll;
        private int length;
        private int at;
        private int numberAt;
        private int fault;
        private int place;

        Reader(int[] text, Roll roll) {
            this.text = text;
            this.roll = roll;
        }

        /** The number of the fault, 0 without one. */
        int readText(int letters) {
            length = Math.min(letters, text.length);
            at = 0;
            fault = 0;
            place = NONE;
            roll.wipe();
            // Blanks alone tell nothing, as an empty text does, so a clause begins only where a letter stands.
            skipBlanks();
            // A clause without a fault takes letters, so there are fewer clauses than letters.
            for (int clause = 0; clause < length && at < length && fault == 0; clause++) {
                readClause();
                skipBlanks();
            }
            return fault;
        }

        int faultPlace() {
            return place;
        }

        private void readClause() {
            int word = letter();
            if (!roll.isTold && word != 'b') {
                fail(CANNOT_STAND, at);
                return;
            }
            switch (word) {
                case 'b':
                    readBrook();
                    break;
                case 'c':
                    readChild();
                    break;
                case 'd':
                    readDeed();
                    break;
                case 'h':
                    readHanding();
                    break;
                default:
                    fail(CANNOT_STAND, at);
                    break;
            }
        }

        private void readBrook() {
            takeWord(!roll.isTold);
            roll.isTold = true;
            int most = readNumber(0, MOST_WEIGHT);
            readEnd();
            roll.brook = most;
        }

        private void readChild() {
            takeWord(roll.children < MOST_CHILDREN);
            int strong = readNumber(1, MOST_TOLD);
            int minutes = readNumber(1, MOST_TOLD);
            readEnd();
            if (fault == 0) {
                roll.addChild(strong, minutes);
            }
        }

        private void readDeed() {
            takeWord(roll.deeds < MOST_DEEDS);
            int owner = readNumber(0, roll.children - 1);
            int weight = readNumber(1, MOST_TOLD);
            readEnd();
            if (fault == 0) {
                roll.addDeed(owner, weight);
            }
        }

        private void readHanding() {
            takeWord(true);
            int giver = readNumber(0, roll.children - 1);
            int taker = readNumber(0, roll.children - 1);
            if (fault == 0 && !roll.canHandDown(giver, taker)) {
                fail(BAD_HANDING, numberAt);
            }
            readEnd();
            if (fault == 0) {
                roll.from[taker] = giver;
            }
        }

        private void takeWord(boolean isRoom) {
            if (!isRoom) {
                fail(TOO_MANY, at);
            }
            at++;
        }

        private void readEnd() {
            skipBlanks();
            if (letter() != ';') {
                fail(CANNOT_STAND, at);
            }
            at++;
        }

        private int readNumber(int least, int most) {
            skipBlanks();
            numberAt = at;
            int value = 0;
            while (at < length && isFigure(letter())) {
                if (at - numberAt < MOST_FIGURES) {
                    value = value * 10 + letter() - '0';
                }
                at++;
            }
            if (at == numberAt) {
                fail(CANNOT_STAND, at);
            } else if (at - numberAt > MOST_FIGURES || value < least || value > most) {
                fail(BAD_NUMBER, numberAt);
            }
            return value;
        }

        private boolean isFigure(int letter) {
            return letter >= '0' && letter <= '9';
        }

        private void skipBlanks() {
            while (at < length && letter() == ' ') {
                at++;
            }
        }

        private int letter() {
            return at >= 0 && at < length ? text[at] : NONE;
        }

        /** Reading goes forward, so the fault that is found first stands first. */
        private void fail(int number, int where) {
            if (fault == 0) {
                fault = number;
                place = where;
            }
        }
    }

    /** All that is done: one row of numbers, so that it is kept and brought back by one copy. */
    private static final class Day {
        static final int STAGE = 0;
        static final int PLACE = STAGE + MOST_DEEDS;
        static final int LAMED = PLACE + MOST_DEEDS;
        static final int DAYS = LAMED + MOST_CHILDREN;
        static final int TAKEN = DAYS + 1;
        static final int TAKEN_IN_ALL = TAKEN + 1;
        static final int LENGTH = TAKEN_IN_ALL + 1;

        final int[] row = new int[LENGTH];
        private final Roll roll;

        Day(Roll roll) {
            this.roll = roll;
            wipe();
        }

        void wipe() {
            Arrays.fill(row, 0);
            for (int d = 0; d < MOST_DEEDS; d++) {
                row[PLACE + d] = NONE;
            }
        }

        int days() {
            return row[DAYS];
        }

        int takenThisDay() {
            return row[TAKEN];
        }

        int takenInAll() {
            return row[TAKEN_IN_ALL];
        }

        int lamedDays(int c) {
            return row[LAMED + c];
        }

        int stageOf(int d) {
            return row[STAGE + d];
        }

        int placeOf(int d) {
            return row[PLACE + d];
        }

        /** Reads the row itself: it stands at the end of the deepest chains of calls. */
        boolean isInSatchel(int d) {
            return row[STAGE + d] == IN_SATCHEL;
        }

        int loadOf(int c) {
            int load = 0;
            for (int d = 0; d < roll.deeds; d++) {
                if (isInSatchel(d) && placeOf(d) == c) {
                    load += roll.weight[d];
                }
            }
            return load;
        }

        boolean isLamed(int c) {
            return loadOf(c) > roll.strong[c];
        }

        int lamedSet() {
            int set = 0;
            for (int c = 0; c < roll.children; c++) {
                if (isLamed(c)) {
                    set |= 1 << c;
                }
            }
            return set;
        }

        int lamedDaysOfAll() {
            int sum = 0;
            for (int c = 0; c < roll.children; c++) {
                sum += lamedDays(c);
            }
            return sum;
        }

        int minutesHome(int c) {
            int strong = Math.max(1, roll.strong[c]);
            return roll.minutes[c] + roll.minutes[c] * loadOf(c) / strong;
        }

        int lastHome() {
            int last = NONE;
            int longest = NONE;
            for (int c = 0; c < roll.children; c++) {
                int minutes = minutesHome(c);
                if (minutes > longest) {
                    longest = minutes;
                    last = c;
                }
            }
            return last;
        }

        int madeSet() {
            int set = 0;
            for (int c = 0; c < roll.children; c++) {
                int own = ownLoadOf(c);
                if (loadOf(c) - own > own) {
                    set |= 1 << c;
                }
            }
            return set;
        }

        private int ownLoadOf(int c) {
            int load = 0;
            for (int d = 0; d < roll.deeds; d++) {
                if (isInSatchel(d) && placeOf(d) == c && roll.owner[d] == c) {
                    load += roll.weight[d];
                }
            }
            return load;
        }

        int deedSet(int stage, int c) {
            int set = 0;
            for (int d = 0; d < roll.deeds; d++) {
                if (stageOf(d) == stage && placeOf(d) == c) {
                    set |= 1 << d;
                }
            }
            return set;
        }

        boolean liesOnTable(int c, int owner) {
            for (int d = 0; d < roll.deeds; d++) {
                if (stageOf(d) == ON_TABLE && placeOf(d) == c && roll.owner[d] == owner) {
                    return true;
                }
            }
            return false;
        }

        boolean canBeDone(int d) {
            return stageOf(d) == NOT_DONE;
        }

        boolean canBeCarried(int d, int c) {
            return isInSatchel(d) && placeOf(d) != c;
        }

        boolean canBeThrown(int d) {
            return isInSatchel(d) && takenThisDay() + roll.weight[d] <= roll.brook;
        }

        boolean areInUnlikeSatchels(int d, int e) {
            return isInSatchel(d) && isInSatchel(e) && placeOf(d) != placeOf(e);
        }

        boolean isLightenedBySwap(int d, int e) {
            if (!areInUnlikeSatchels(d, e)) {
                return false;
            }
            int a = placeOf(d);
            int b = placeOf(e);
            int more = roll.weight[e] - roll.weight[d];
            return (isLamed(a) || isLamed(b))
                && loadOf(a) + more <= roll.strong[a] && loadOf(b) - more <= roll.strong[b];
        }

        void putInOwnSatchel(int d) {
            putInSatchel(d, roll.owner[d]);
        }

        void putInSatchel(int d, int c) {
            row[STAGE + d] = IN_SATCHEL;
            row[PLACE + d] = c;
        }

        void changePlaces(int d, int e) {
            int place = placeOf(d);
            putInSatchel(d, placeOf(e));
            putInSatchel(e, place);
        }

        void putInBrook(int d) {
            row[STAGE + d] = IN_BROOK;
            row[PLACE + d] = NONE;
            row[TAKEN] += roll.weight[d];
            row[TAKEN_IN_ALL] = Math.min(MOST_TAKEN, row[TAKEN_IN_ALL] + roll.weight[d]);
        }

        void putNowhere(int d) {
            row[STAGE + d] = NOT_DONE;
            row[PLACE + d] = NONE;
        }

        /** Who was lamed on the way. */
        int allGoHome() {
            int lamed = lamedSet();
            for (int c = 0; c < roll.children; c++) {
                row[LAMED + c] += lamed >> c & 1;
            }
            for (int d = 0; d < roll.deeds; d++) {
                if (isInSatchel(d)) {
                    row[STAGE + d] = ON_TABLE;
                }
            }
            row[DAYS]++;
            row[TAKEN] = 0;
            return lamed;
        }
    }

    /** The latest rows that can be undone; the oldest gives way to the newest. */
    private static final class Past {
        private final int[] rows = new int[MOST_UNDONE * Day.LENGTH];
        private int next;
        int count;

        void push(int[] row) {
            System.arraycopy(row, 0, rows, next * Day.LENGTH, Day.LENGTH);
            next = next + 1 < MOST_UNDONE ? next + 1 : 0;
            count = Math.min(MOST_UNDONE, count + 1);
        }

        void pop(int[] row) {
            if (count > 0) {
                next = next > 0 ? next - 1 : MOST_UNDONE - 1;
                count--;
                System.arraycopy(rows, next * Day.LENGTH, row, 0, Day.LENGTH);
            }
        }

        void wipe() {
            next = 0;
            count = 0;
        }
    }

    private static final class Image {
        private final int[] kept = new int[Day.LENGTH];
        int drawn;
        boolean isKept;

        void take(int[] row, int seedNow) {
            System.arraycopy(row, 0, kept, 0, Day.LENGTH);
            drawn = seedNow;
            isKept = true;
        }

        void giveTo(int[] row) {
            System.arraycopy(kept, 0, row, 0, Day.LENGTH);
        }
    }

    /**
     * The first of the cheapest ways to give all that is in satchels to the children: cheap by few moved
     * where nobody may be lamed, or by a small greatest load.
     */
    private static final class Packing {
        // Seven deeds weigh 693 at most: no cost and no load comes up to this.
        private static final int TOO_MUCH = 1000;

        private final Roll roll;
        private final Day day;
        private final boolean isFair;
        private final int[] holders = new int[MOST_DEEDS];
        private final int[] trial = new int[MOST_DEEDS];
        private final int[] answer = new int[MOST_DEEDS];
        private final int[] loadNow = new int[MOST_CHILDREN];
        private int best;
        private int enough;
        private boolean isSolved;

        Packing(Roll roll, Day day, boolean isFair) {
            this.roll = roll;
            this.day = day;
            this.isFair = isFair;
        }

        void forget() {
            isSolved = false;
        }

        int leastCost() {
            solve();
            return best < TOO_MUCH ? best : NONE;
        }

        int childFor(int d) {
            solve();
            return answer[d];
        }

        /** The search is dear and is often asked again of the same satchels: then the answer stays. */
        private void solve() {
            if (isSolved && !haveHoldersChanged()) {
                return;
            }
            for (int d = 0; d < MOST_DEEDS; d++) {
                holders[d] = holderNow(d);
            }
            Arrays.fill(trial, NONE);
            Arrays.fill(answer, NONE);
            Arrays.fill(loadNow, 0);
            best = TOO_MUCH;
            enough = isFair ? leastGreatestLoad() : 0;
            isSolved = true;
            if (!isFair || roll.children > 0) {
                place(0, 0);
            }
        }

        /** No greatest load can be below the heaviest deed, nor below what each has if all have alike. */
        private int leastGreatestLoad() {
            int heaviest = 0;
            int all = 0;
            for (int d = 0; d < roll.deeds; d++) {
                if (holders[d] != NONE) {
                    heaviest = Math.max(heaviest, roll.weight[d]);
                    all += roll.weight[d];
                }
            }
            int children = Math.max(1, roll.children);
            return Math.max(heaviest, (all + children - 1) / children);
        }

        private boolean haveHoldersChanged() {
            for (int d = 0; d < MOST_DEEDS; d++) {
                if (holders[d] != holderNow(d)) {
                    return true;
                }
            }
            return false;
        }

        private int holderNow(int d) {
            return roll.hasDeed(d) && day.isInSatchel(d) ? day.placeOf(d) : NONE;
        }

        /** Goes through the ways in their order, so that of like ones the first is kept. */
        private void place(int d, int cost) {
            if (cost >= best || best <= enough) {
                return;
            }
            if (d < 0 || d >= roll.deeds || d >= MOST_DEEDS) {
                best = cost;
                System.arraycopy(trial, 0, answer, 0, MOST_DEEDS);
                return;
            }
            if (holders[d] == NONE) {
                place(d + 1, cost);
                return;
            }
            for (int c = 0; c < roll.children; c++) {
                int load = loadNow[c] + roll.weight[d];
                if (isFair || load <= roll.strong[c]) {
                    loadNow[c] = load;
                    trial[d] = c;
                    place(d + 1, isFair ? Math.max(cost, load) : c == holders[d] ? cost : cost + 1);
                    loadNow[c] = load - roll.weight[d];
                }
            }
        }
    }

    /** The sets of deeds that weigh the same together. */
    private static final class Scale {
        private final Roll roll;
        private final int[] setsWith = new int[MOST_DEEDS];
        int sets;
        int least;
        int sure;

        Scale(Roll roll) {
            this.roll = roll;
        }

        void tryAllSets(int weight) {
            sets = 0;
            least = NONE;
            sure = 0;
            Arrays.fill(setsWith, 0);
            for (int set = 0; set < 1 << roll.deeds; set++) {
                if (weightOf(set) == weight) {
                    count(set);
                }
            }
        }

        int bestToLookFor() {
            int best = NONE;
            int leastAlike = sets;
            for (int d = 0; d < roll.deeds; d++) {
                int alike = Math.max(setsWith[d], sets - setsWith[d]);
                if (alike < leastAlike) {
                    leastAlike = alike;
                    best = d;
                }
            }
            return best;
        }

        private int weightOf(int set) {
            int sum = 0;
            for (int d = 0; d < roll.deeds; d++) {
                sum += (set >> d & 1) * roll.weight[d];
            }
            return sum;
        }

        private void count(int set) {
            least = sets == 0 ? set : least;
            sure = sets == 0 ? set : sure & set;
            sets++;
            for (int d = 0; d < roll.deeds; d++) {
                setsWith[d] += set >> d & 1;
            }
        }
    }

    /** What is seen at the tables, and the book of loads. */
    private static final class Slate {
        private final int[] table = new int[MOST_SEEN];
        private final int[] owner = new int[MOST_SEEN];
        private final boolean[] lay = new boolean[MOST_SEEN];
        private final int[] carrier = new int[MOST_ENTRIES];
        private final int[] load = new int[MOST_ENTRIES];
        int seen;
        int entries;

        void wipe() {
            seen = 0;
            entries = 0;
        }

        void addSeen(int c, int itsOwner, boolean is) {
            if (seen < MOST_SEEN) {
                table[seen] = c;
                owner[seen] = itsOwner;
                lay[seen] = is;
                seen++;
            }
        }

        void addEntry(int c, int itsLoad) {
            if (entries < MOST_ENTRIES) {
                carrier[entries] = c;
                load[entries] = itsLoad;
                entries++;
            }
        }

        int firstUntrue(Day day) {
            for (int i = 0; i < seen; i++) {
                if (day.liesOnTable(table[i], owner[i]) != lay[i]) {
                    return i;
                }
            }
            return NONE;
        }

        int firstWrong(Day day) {
            for (int i = 0; i < entries; i++) {
                if (day.loadOf(carrier[i]) != load[i]) {
                    return i;
                }
            }
            return NONE;
        }
    }
}
