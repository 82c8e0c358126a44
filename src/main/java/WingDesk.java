import java.util.Arrays;

/**
 * The desk in the wings: pieces, looks, quick changes, dressers, the wash,
 * tonight's size, and told handlings. Every answer below LOW is a finding.
 */
public final class WingDesk {
    private static final int LOW = -1000000;
    private static final int BEYOND = 1;
    private static final int NONE = 2;
    private static final int STATE = 3;
    private static final int FULL = 4;
    private static final int KIND = 5;
    private static final int FINDINGS = 5;

    private static final int PIECES = 32;
    private static final int LOOKS = 12;
    private static final int ROW = 8;
    private static final int PLACES = 6;
    private static final int SHIFTS = 12;
    private static final int DOORS = 6;
    private static final int MOST_HANDS = 3;
    private static final int LATEST = 20000;
    private static final int LONGEST_WAY = 600;
    private static final int WAITING = 30;
    private static final int LAST_HOUR = 100000;

    private static final int ANY_KIND = 0;
    private static final int WIG = 1;
    private static final int TEAR = 2;

    /** What is known of a piece, under the numbers that about() takes. */
    private static final int OF_KIND = 0;
    private static final int PLACE = 1;
    private static final int THICK = 2;
    private static final int ON = 3;
    private static final int OFF = 4;
    private static final int NAME = 5;
    private static final int SIZE = 6;
    private static final int SPAN = 7;
    private static final int WHERE = 8;
    private static final int UNTIL = 9;
    private static final int FACTS = 10;

    private static final int ON_RAIL = 0;
    private static final int IS_WORN = 1;
    private static final int IN_WASH = 2;
    private static final int IS_WET = 3;
    private static final int WASH_HOLDS = 6;
    private static final int WASH_HOURS = 2;

    private static final int SWAPPED = 1;
    private static final int ALTERED = 10;

    /** More than all seconds that a change can take. */
    private static final int NEVER = 1000000;

    private static final int NOT_JUST_B = 99;

    private final Wardrobe wardrobe = new Wardrobe();
    private final Looks looks = new Looks();
    private final Change change = new Change(wardrobe, looks);
    private final Show show = new Show();
    private final Roster roster = new Roster(show);
    private final Body body = new Body(wardrobe);
    private final int[] waiting = new int[WAITING];
    private final int[] findings = new int[FINDINGS + 1];
    private int waitingCount;
    private int mostThick = 8;

    public WingDesk() {
    }

    // ---- pieces and looks

    public int piece(int how, int seconds, int size) {
        if (!isPieceTold(how, seconds, size)) {
            return finding(BEYOND);
        }
        if (wardrobe.isFull()) {
            return finding(FULL);
        }
        return wardrobe.add(how, seconds, size);
    }

    public int as(int p, int kind) {
        if (!wardrobe.has(p) || !isWithin(kind, ANY_KIND, TEAR)) {
            return finding(BEYOND);
        }
        if (kind != ANY_KIND && wardrobe.fact(p, OF_KIND) != kind) {
            return finding(KIND);
        }
        return wardrobe.fact(p, PLACE);
    }

    public int about(int p, int what) {
        if (!wardrobe.has(p) || !isWithin(what, 0, FACTS - 1)) {
            return finding(BEYOND);
        }
        return wardrobe.fact(p, what);
    }

    public int wear(int look, int p) {
        if (!looks.has(look) || !wardrobe.has(p)) {
            return finding(BEYOND);
        }
        if (looks.indexOf(look, p) >= 0) {
            return finding(STATE);
        }
        if (looks.sizeOf(look) >= ROW) {
            return finding(FULL);
        }
        return looks.append(look, p);
    }

    public int bare(int look) {
        if (!looks.has(look)) {
            return finding(BEYOND);
        }
        return looks.clear(look);
    }

    public int look(int look, int i) {
        if (!looks.has(look)) {
            return finding(BEYOND);
        }
        int p = looks.at(look, i);
        return p < 0 ? finding(NONE) : p;
    }

    public int limit(int v) {
        if (!isWithin(v, 1, 30)) {
            return finding(BEYOND);
        }
        int before = mostThick;
        mostThick = v;
        return before;
    }

    // ---- changes

    public int allowed(int a, int b, int beneath) {
        if (!isChange(a, b, beneath)) {
            return finding(BEYOND);
        }
        return isAllowed(a, b, beneath) ? 1 : 0;
    }

    public int told(int a, int b, int beneath, int what) {
        if (!isChange(a, b, beneath) || !isWithin(what, 0, 3)) {
            return finding(BEYOND);
        }
        if (!isAllowed(a, b, beneath)) {
            return finding(STATE);
        }
        change.handle(beneath);
        int bits = what % 2 == 0 ? change.off : change.on;
        return what < 2 ? Integer.bitCount(bits) : bits;
    }

    public int seconds(int a, int b, int beneath, int hands) {
        if (!isChange(a, b, beneath) || !isWithin(hands, 0, MOST_HANDS)) {
            return finding(BEYOND);
        }
        if (!isAllowed(a, b, beneath)) {
            return finding(STATE);
        }
        change.handle(beneath);
        int needed = change.secondsWith(hands);
        return needed == NEVER ? finding(NONE) : needed;
    }

    public int best(int a, int b, int hands, int what) {
        if (!isChange(a, b, 0) || !isWithin(hands, 0, MOST_HANDS) || !isWithin(what, 0, 1)) {
            return finding(BEYOND);
        }
        change.findBest(a, b, hands, mostThick);
        if (change.bestSeconds == NEVER) {
            return finding(NONE);
        }
        return what == 0 ? change.bestBits : change.bestSeconds;
    }

    // ---- the show

    public int shift(int how, int from, int up, int hands) {
        if (!isShiftTold(how) || !isWithin(from, 0, LATEST) || !isWithin(up, 0, LATEST)
                || up <= from || !isWithin(hands, 0, MOST_HANDS)) {
            return finding(BEYOND);
        }
        if (show.isFull()) {
            return finding(FULL);
        }
        return show.add(how, from, up, hands);
    }

    public int less() {
        if (show.count == 0) {
            return finding(NONE);
        }
        return show.dropLatest();
    }

    public int way(int a, int b, int way) {
        if (!isWithin(a, 0, DOORS - 1) || !isWithin(b, 0, DOORS - 1) || a == b
                || !isWithin(way, 0, LONGEST_WAY)) {
            return finding(BEYOND);
        }
        return show.setWay(a, b, way);
    }

    public int fits(int s) {
        if (!show.has(s)) {
            return finding(BEYOND);
        }
        change.findBest(show.lookBefore(s), show.lookAfter(s), show.handsOf(s), mostThick);
        return change.bestSeconds <= show.lengthOf(s) ? 1 : 0;
    }

    public int dressers() {
        return roster.fewest();
    }

    // ---- the wash

    public int worn(int p) {
        if (!wardrobe.has(p)) {
            return finding(BEYOND);
        }
        if (wardrobe.fact(p, WHERE) != ON_RAIL) {
            return finding(STATE);
        }
        wardrobe.place(p, IS_WORN, 0);
        return 1;
    }

    public int wash(int p) {
        if (!wardrobe.has(p)) {
            return finding(BEYOND);
        }
        if (wardrobe.fact(p, WHERE) != IS_WORN) {
            return finding(STATE);
        }
        if (wardrobe.countInWash() >= WASH_HOLDS) {
            return finding(FULL);
        }
        return wardrobe.soak(p);
    }

    public int hours(int n) {
        if (!isWithin(n, 1, 100)) {
            return finding(BEYOND);
        }
        if (wardrobe.hour + n > LAST_HOUR) {
            return finding(FULL);
        }
        return wardrobe.passHours(n);
    }

    // ---- tonight

    public int tonight(int look, int size) {
        if (!looks.has(look) || !isWithin(size, 30, 66)) {
            return finding(BEYOND);
        }
        int sum = 0;
        int worn = looks.sizeOf(look);
        for (int i = 0; i < worn; i++) {
            sum += costTonight(look, i, size);
        }
        return sum;
    }

    // ---- what is told

    public int tell(int v) {
        if (waitingCount >= WAITING) {
            return finding(FULL);
        }
        waiting[waitingCount] = v;
        waitingCount++;
        return waitingCount;
    }

    public int check(int a, int b, int beneath) {
        if (!isChange(a, b, beneath)) {
            return finding(BEYOND);
        }
        int handlings = waitingCount;
        waitingCount = 0;
        if (!isAllowed(a, b, beneath)) {
            return finding(STATE);
        }
        dressForChange(a, b, beneath);
        for (int i = 0; i < handlings && i < WAITING; i++) {
            if (!body.handle(waiting[i])) {
                return 1 + i;
            }
        }
        return isJustWorn(b) ? 0 : NOT_JUST_B;
    }

    public int count(int what) {
        switch (what) {
            case 0:
                return wardrobe.count;
            case 1:
                return show.count;
            case 2:
                return wardrobe.hour;
            case 3:
                return waitingCount;
            case 4:
                return wardrobe.countInWash();
            case 5:
                return mostThick;
            default:
                return finding(BEYOND);
        }
    }

    public int found(int k) {
        return isWithin(k, 1, FINDINGS) ? findings[k] : finding(BEYOND);
    }

    // ---- helpers

    private int finding(int k) {
        if (isWithin(k, 1, FINDINGS)) {
            findings[k]++;
        }
        return LOW - k;
    }

    private static boolean isWithin(int v, int least, int most) {
        return v >= least && v <= most;
    }

    private static boolean hasBit(int bits, int i) {
        return (bits >>> i & 1) != 0;
    }

    private static boolean isPieceTold(int how, int seconds, int size) {
        return how >= 0 && seconds >= 0 && size >= 0
                && isWithin(nameIn(how), 0, 15)
                && isWithin(placeIn(how), 0, PLACES - 1)
                && isWithin(thickIn(how), 1, 5)
                && isWithin(kindIn(how), ANY_KIND, TEAR)
                && isWithin(onIn(seconds), 1, 60)
                && isWithin(offIn(seconds), 1, kindIn(how) == TEAR ? 1 : 60)
                && isWithin(sizeIn(size), 30, 60)
                && isWithin(spanIn(size), 0, 6);
    }

    private static int nameIn(int how) {
        return how / 1000;
    }

    private static int placeIn(int how) {
        return how / 100 % 10;
    }

    private static int thickIn(int how) {
        return how / 10 % 10;
    }

    private static int kindIn(int how) {
        return how % 10;
    }

    private static int onIn(int seconds) {
        return seconds / 100;
    }

    private static int offIn(int seconds) {
        return seconds % 100;
    }

    private static int sizeIn(int size) {
        return size / 10;
    }

    private static int spanIn(int size) {
        return size % 10;
    }

    private static boolean isShiftTold(int how) {
        return how >= 0
                && isWithin(beforeIn(how), 0, LOOKS - 1)
                && isWithin(afterIn(how), 0, LOOKS - 1)
                && isWithin(doorIn(how), 0, DOORS - 1);
    }

    private static int beforeIn(int how) {
        return how / 1000;
    }

    private static int afterIn(int how) {
        return how / 10 % 100;
    }

    private static int doorIn(int how) {
        return how % 10;
    }

    private boolean isChange(int a, int b, int beneath) {
        return looks.has(a) && looks.has(b) && looks.hasBits(b, beneath);
    }

    private boolean isAllowed(int a, int b, int beneath) {
        change.prepare(a, b);
        return change.mayLieBeneath(beneath, mostThick);
    }

    private int costTonight(int look, int i, int size) {
        int p = looks.at(look, i);
        int away = wardrobe.sizesAway(p, size);
        if (away == 0) {
            return 0;
        }
        return countAheadForSwap(look, i, size) < countSpares(p, size) ? SWAPPED : ALTERED * away;
    }

    /**
     * A swap always costs less than altering, and spares of one name and place
     * serve alike: so they go to those that are the most sizes away.
     */
    private int countAheadForSwap(int look, int i, int size) {
        int p = looks.at(look, i);
        int away = wardrobe.sizesAway(p, size);
        int ahead = 0;
        int worn = looks.sizeOf(look);
        for (int k = 0; k < worn; k++) {
            int q = looks.at(look, k);
            int awayToo = wardrobe.sizesAway(q, size);
            if (wardrobe.areAlike(p, q) && (awayToo > away || awayToo == away && k < i)) {
                ahead++;
            }
        }
        return ahead;
    }

    private int countSpares(int p, int size) {
        int spares = 0;
        for (int q = 0; q < PIECES; q++) {
            if (wardrobe.has(q) && wardrobe.areAlike(p, q) && wardrobe.sizesAway(q, size) == 0
                    && wardrobe.fact(q, WHERE) == ON_RAIL && looks.isInNone(q)) {
                spares++;
            }
        }
        return spares;
    }

    private void dressForChange(int a, int b, int beneath) {
        int sizeA = looks.sizeOf(a);
        int sizeB = looks.sizeOf(b);
        body.undress();
        for (int j = 0; j < sizeB; j++) {
            if (hasBit(beneath, j)) {
                body.putOn(looks.at(b, j));
            }
        }
        for (int i = 0; i < sizeA; i++) {
            body.putOn(looks.at(a, i));
        }
    }

    private boolean isJustWorn(int look) {
        int size = looks.sizeOf(look);
        if (body.countWorn() != size) {
            return false;
        }
        for (int j = 0; j < size; j++) {
            int p = looks.at(look, j);
            if (!body.hasOn(p)) {
                return false;
            }
            for (int k = 0; k < j; k++) {
                if (body.liesOver(looks.at(look, k), p)) {
                    return false;
                }
            }
        }
        return true;
    }

    /** All pieces, with what is known of each, and the hours of their wash. */
    private static final class Wardrobe {
        private final int[] facts = new int[PIECES * FACTS];
        private int count;
        private int hour;

        boolean isFull() {
            return count >= PIECES;
        }

        boolean has(int p) {
            return p >= 0 && p < count && p < PIECES;
        }

        /** -1 where there is no such piece or fact. */
        int fact(int p, int what) {
            return has(p) && what >= 0 && what < FACTS ? facts[p * FACTS + what] : -1;
        }

        private void setFact(int p, int what, int v) {
            if (has(p) && what >= 0 && what < FACTS) {
                facts[p * FACTS + what] = v;
            }
        }

        int add(int how, int seconds, int size) {
            int p = count;
            count++;
            setFact(p, OF_KIND, kindIn(how));
            setFact(p, PLACE, placeIn(how));
            setFact(p, THICK, thickIn(how));
            setFact(p, ON, onIn(seconds));
            setFact(p, OFF, offIn(seconds));
            setFact(p, NAME, nameIn(how));
            setFact(p, SIZE, sizeIn(size));
            setFact(p, SPAN, spanIn(size));
            place(p, ON_RAIL, 0);
            return p;
        }

        void place(int p, int where, int until) {
            setFact(p, WHERE, where);
            setFact(p, UNTIL, until);
        }

        boolean haveOnePlace(int p, int q) {
            return fact(p, PLACE) == fact(q, PLACE);
        }

        boolean areAlike(int p, int q) {
            return haveOnePlace(p, q) && fact(p, NAME) == fact(q, NAME);
        }

        /** 0 if it fits. */
        int sizesAway(int p, int size) {
            int least = fact(p, SIZE);
            int most = least + fact(p, SPAN);
            return Math.max(0, Math.max(least - size, size - most));
        }

        int countInWash() {
            int inWash = 0;
            for (int p = 0; p < count; p++) {
                if (fact(p, WHERE) == IN_WASH) {
                    inWash++;
                }
            }
            return inWash;
        }

        int soak(int p) {
            int wetFrom = hour + WASH_HOURS;
            place(p, IN_WASH, wetFrom);
            return wetFrom + fact(p, THICK);
        }

        int passHours(int n) {
            hour += n;
            int came = 0;
            for (int p = 0; p < count; p++) {
                if (dries(p)) {
                    came++;
                }
            }
            return came;
        }

        /** Many hours may take a piece from the wash through wet to the rail at once. */
        private boolean dries(int p) {
            if (fact(p, WHERE) == IN_WASH && fact(p, UNTIL) <= hour) {
                place(p, IS_WET, fact(p, UNTIL) + fact(p, THICK));
            }
            if (fact(p, WHERE) == IS_WET && fact(p, UNTIL) <= hour) {
                place(p, ON_RAIL, 0);
                return true;
            }
            return false;
        }
    }

    /** The rows of pieces, by their numbers. */
    private static final class Looks {
        private final int[] rows = new int[LOOKS * ROW];
        private final int[] sizes = new int[LOOKS];
        private final int[] looksWith = new int[PIECES];

        boolean has(int look) {
            return look >= 0 && look < LOOKS;
        }

        int sizeOf(int look) {
            return has(look) ? sizes[look] : 0;
        }

        /** -1 where there is none. */
        int at(int look, int i) {
            return has(look) && i >= 0 && i < ROW && i < sizes[look] ? rows[look * ROW + i] : -1;
        }

        /** -1 if the piece isn't in it. */
        int indexOf(int look, int p) {
            int size = sizeOf(look);
            for (int i = 0; i < size; i++) {
                if (at(look, i) == p) {
                    return i;
                }
            }
            return -1;
        }

        boolean hasBits(int look, int bits) {
            return bits >>> sizeOf(look) == 0;
        }

        boolean isInNone(int p) {
            return isWithin(p, 0, PIECES - 1) && looksWith[p] == 0;
        }

        int append(int look, int p) {
            if (has(look) && sizes[look] < ROW) {
                rows[look * ROW + sizes[look]] = p;
                sizes[look]++;
                noteLooksWith(p, 1);
            }
            return sizeOf(look);
        }

        int clear(int look) {
            int before = sizeOf(look);
            for (int i = 0; i < before; i++) {
                noteLooksWith(at(look, i), -1);
            }
            if (has(look)) {
                sizes[look] = 0;
            }
            return before;
        }

        private void noteLooksWith(int p, int more) {
            if (isWithin(p, 0, PIECES - 1)) {
                looksWith[p] += more;
            }
        }
    }

    /**
     * One change from a look a to a look b. It is prepared once, so that each of
     * the many ways to lie beneath costs only a few steps on bits.
     */
    private static final class Change {
        private final Wardrobe wardrobe;
        private final Looks looks;
        private int sizeA;
        private int sizeB;
        private int wigsA;
        private int wigsB;
        /** Bits of those of a that come off whatever lies beneath. */
        private int surelyOff;
        /** Of each of a: its index in b, and of each of b: its index in a; or -1. */
        private final int[] inB = new int[ROW];
        private final int[] inA = new int[ROW];
        /** Of each of a: bits of those of a over which it lies. */
        private final int[] under = new int[ROW];
        /** Of each of b: bits of those of b with its place that are ahead of it. */
        private final int[] ahead = new int[ROW];
        /** Of each of b: how thick all of a and of b up to it are at its place. */
        private final int[] pile = new int[ROW];
        private final int[] offSeconds = new int[ROW];
        private final int[] onSeconds = new int[ROW];
        /** What handle() tells: bits of a's row, and of b's. */
        private int off;
        private int on;
        /** What findBest() tells. */
        private int bestBits;
        private int bestSeconds;

        Change(Wardrobe wardrobe, Looks looks) {
            this.wardrobe = wardrobe;
            this.looks = looks;
        }

        void prepare(int a, int b) {
            sizeA = Math.min(ROW, looks.sizeOf(a));
            sizeB = Math.min(ROW, looks.sizeOf(b));
            wigsA = wigsOf(a);
            wigsB = wigsOf(b);
            surelyOff = 0;
            for (int i = 0; i < sizeA; i++) {
                prepareWorn(a, b, i);
            }
            for (int j = 0; j < sizeB; j++) {
                prepareWanted(a, b, j);
            }
        }

        private void prepareWorn(int a, int b, int i) {
            int p = looks.at(a, i);
            offSeconds[i] = wardrobe.fact(p, OFF);
            inB[i] = looks.indexOf(b, p);
            under[i] = aheadAtPlace(a, i);
            if (inB[i] < 0 || isWantedUnder(i)) {
                surelyOff |= 1 << i;
            }
        }

        /**
         * Whether it lies over one that b wants over it. If that one stays it comes off
         * as the later one of the two, and if that one comes off, as lying over it.
         */
        private boolean isWantedUnder(int i) {
            for (int k = 0; k < i; k++) {
                if (hasBit(under[i], k) && inB[k] > inB[i]) {
                    return true;
                }
            }
            return false;
        }

        private void prepareWanted(int a, int b, int j) {
            int p = looks.at(b, j);
            onSeconds[j] = wardrobe.fact(p, ON);
            inA[j] = looks.indexOf(a, p);
            ahead[j] = aheadAtPlace(b, j);
            pile[j] = thickBefore(a, sizeA, p) + thickBefore(b, j, p) + wardrobe.fact(p, THICK);
        }

        private int aheadAtPlace(int look, int i) {
            int p = looks.at(look, i);
            int bits = 0;
            for (int k = 0; k < i; k++) {
                if (wardrobe.haveOnePlace(looks.at(look, k), p)) {
                    bits |= 1 << k;
                }
            }
            return bits;
        }

        private int thickBefore(int look, int end, int p) {
            int sum = 0;
            for (int k = 0; k < end; k++) {
                int q = looks.at(look, k);
                if (wardrobe.haveOnePlace(q, p)) {
                    sum += wardrobe.fact(q, THICK);
                }
            }
            return sum;
        }

        private int wigsOf(int look) {
            int bits = 0;
            int size = looks.sizeOf(look);
            for (int i = 0; i < size; i++) {
                if (wardrobe.fact(looks.at(look, i), OF_KIND) == WIG) {
                    bits |= 1 << i;
                }
            }
            return bits;
        }

        /**
         * All ahead at its place are beneath, too: so none of these is in a, and
         * pile tells how thick it is up to each; the last one's is the most.
         */
        boolean mayLieBeneath(int beneath, int mostThick) {
            for (int j = 0; j < sizeB; j++) {
                if (hasBit(beneath, j)
                        && (inA[j] >= 0 || (ahead[j] & ~beneath) != 0 || pile[j] > mostThick)) {
                    return false;
                }
            }
            return true;
        }

        /** Each round but the last takes at least one more of a off: ROW rounds are enough. */
        void handle(int beneath) {
            off = surelyOff;
            on = missing(beneath);
            for (int round = 0; round < ROW; round++) {
                int more = forcedOff();
                if (more == 0) {
                    return;
                }
                off |= more;
                on = missing(beneath);
            }
        }

        private int missing(int beneath) {
            int bits = 0;
            for (int j = 0; j < sizeB; j++) {
                if (!hasBit(beneath, j) && (inA[j] < 0 || hasBit(off, inA[j]))) {
                    bits |= 1 << j;
                }
            }
            return bits;
        }

        private int forcedOff() {
            int bits = 0;
            for (int i = 0; i < sizeA; i++) {
                if (!hasBit(off, i) && mustComeOff(i)) {
                    bits |= 1 << i;
                }
            }
            return bits;
        }

        private boolean mustComeOff(int i) {
            int j = inB[i];
            return (under[i] & off) != 0 || j >= 0 && (ahead[j] & on) != 0;
        }

        int secondsWith(int hands) {
            boolean hasWig = (off & wigsA) != 0 || (on & wigsB) != 0;
            if (!isWithin(hands, 0, MOST_HANDS) || hands == 0 && hasWig) {
                return NEVER;
            }
            int sum = sumOf(offSeconds, sizeA, off) + sumOf(onSeconds, sizeB, on);
            int most = Math.max(mostOf(offSeconds, sizeA, off), mostOf(onSeconds, sizeB, on));
            return Math.max((sum + hands) / (hands + 1), most);
        }

        private static int sumOf(int[] each, int size, int bits) {
            int sum = 0;
            for (int i = 0; i < size && i < each.length; i++) {
                if (hasBit(bits, i)) {
                    sum += each[i];
                }
            }
            return sum;
        }

        private static int mostOf(int[] each, int size, int bits) {
            int most = 0;
            for (int i = 0; i < size && i < each.length; i++) {
                if (hasBit(bits, i)) {
                    most = Math.max(most, each[i]);
                }
            }
            return most;
        }

        /** Goes upwards, so that of equals the one that is less as a number stays. */
        void findBest(int a, int b, int hands, int mostThick) {
            prepare(a, b);
            bestBits = 0;
            bestSeconds = NEVER;
            for (int beneath = 0; beneath < 1 << sizeB; beneath++) {
                if (mayLieBeneath(beneath, mostThick)) {
                    handle(beneath);
                    keepIfBetter(beneath, secondsWith(hands));
                }
            }
        }

        private void keepIfBetter(int beneath, int needed) {
            if (needed < bestSeconds || needed == bestSeconds
                    && Integer.bitCount(beneath) < Integer.bitCount(bestBits)) {
                bestBits = beneath;
                bestSeconds = needed;
            }
        }
    }

    /** The shifts, and the ways between the doors. */
    private static final class Show {
        private final int[] hows = new int[SHIFTS];
        private final int[] froms = new int[SHIFTS];
        private final int[] ups = new int[SHIFTS];
        private final int[] hands = new int[SHIFTS];
        private final int[] ways = new int[DOORS * DOORS];
        private int count;

        boolean isFull() {
            return count >= SHIFTS;
        }

        boolean has(int s) {
            return s >= 0 && s < count && s < SHIFTS;
        }

        int add(int how, int from, int up, int handCount) {
            int s = count;
            if (s < 0 || s >= SHIFTS) {
                return s;
            }
            hows[s] = how;
            froms[s] = from;
            ups[s] = up;
            hands[s] = handCount;
            count++;
            return s;
        }

        int dropLatest() {
            count = Math.max(0, count - 1);
            return count;
        }

        int lookBefore(int s) {
            return has(s) ? beforeIn(hows[s]) : -1;
        }

        int lookAfter(int s) {
            return has(s) ? afterIn(hows[s]) : -1;
        }

        int handsOf(int s) {
            return has(s) ? hands[s] : 0;
        }

        int lengthOf(int s) {
            return has(s) ? ups[s] - froms[s] : 0;
        }

        int setWay(int a, int b, int way) {
            int before = wayBetween(a, b);
            if (isWithin(a, 0, DOORS - 1) && isWithin(b, 0, DOORS - 1)) {
                ways[a * DOORS + b] = way;
                ways[b * DOORS + a] = way;
            }
            return before;
        }

        private int wayBetween(int a, int b) {
            return isWithin(a, 0, DOORS - 1) && isWithin(b, 0, DOORS - 1) ? ways[a * DOORS + b] : 0;
        }

        boolean mayGo(int s, int t) {
            return has(s) && has(t)
                    && froms[t] >= ups[s] + wayBetween(doorIn(hows[s]), doorIn(hows[t]));
        }
    }

    /**
     * The fewest dressers: as many as all hands, less the most that can go on from
     * one shift to another, each hand at most once from its shift and once to it.
     * Ways need not be the shortest, so only what goes straight on counts.
     */
    private static final class Roster {
        private final Show show;
        /** Of each shift: how many of its hands come from no other shift yet. */
        private final int[] fresh = new int[SHIFTS];
        /** At s * SHIFTS + t: how many go on from s to t. */
        private final int[] going = new int[SHIFTS * SHIFTS];
        /** Where the search came from to a shift as one gone to, or -1. */
        private final int[] cameFrom = new int[SHIFTS];
        /** The shift gone to until now by one that the search would send elsewhere, or -1. */
        private final int[] takenFrom = new int[SHIFTS];
        private final int[] queue = new int[SHIFTS];
        private int queued;

        Roster(Show show) {
            this.show = show;
        }

        int fewest() {
            int needed = 0;
            Arrays.fill(going, 0);
            for (int s = 0; s < SHIFTS; s++) {
                fresh[s] = show.handsOf(s);
                needed += fresh[s];
            }
            for (int s = 0; s < SHIFTS; s++) {
                needed -= sendOn(s);
            }
            return needed;
        }

        private int sendOn(int s) {
            int sent = 0;
            int hands = show.handsOf(s);
            for (int hand = 0; hand < hands; hand++) {
                int last = search(s);
                if (last < 0) {
                    return sent;
                }
                settle(s, last);
                sent++;
            }
            return sent;
        }

        /** The shift with a fresh hand that can be reached by sending others elsewhere, or -1. */
        private int search(int start) {
            Arrays.fill(cameFrom, -1);
            Arrays.fill(takenFrom, -1);
            queued = 0;
            enqueue(start, start);
            for (int head = 0; head < queued && head < SHIFTS; head++) {
                int s = queue[head];
                for (int t = 0; t < SHIFTS; t++) {
                    if (cameFrom[t] < 0 && show.mayGo(s, t)) {
                        cameFrom[t] = s;
                        if (fresh[t] > 0) {
                            return t;
                        }
                        enqueueThoseGoingTo(t);
                    }
                }
            }
            return -1;
        }

        private void enqueueThoseGoingTo(int t) {
            for (int s = 0; s < SHIFTS; s++) {
                if (goingBetween(s, t) > 0) {
                    enqueue(s, t);
                }
            }
        }

        private void enqueue(int s, int t) {
            if (isWithin(s, 0, SHIFTS - 1) && takenFrom[s] < 0 && queued < SHIFTS) {
                takenFrom[s] = t;
                queue[queued] = s;
                queued++;
            }
        }

        private void settle(int start, int last) {
            if (!isWithin(last, 0, SHIFTS - 1)) {
                return;
            }
            fresh[last]--;
            int t = last;
            for (int step = 0; step < SHIFTS && isWithin(t, 0, SHIFTS - 1); step++) {
                int s = cameFrom[t];
                noteGoing(s, t, 1);
                if (s == start || !isWithin(s, 0, SHIFTS - 1)) {
                    return;
                }
                t = takenFrom[s];
                noteGoing(s, t, -1);
            }
        }

        private int goingBetween(int s, int t) {
            return isWithin(s, 0, SHIFTS - 1) && isWithin(t, 0, SHIFTS - 1) ? going[s * SHIFTS + t] : 0;
        }

        private void noteGoing(int s, int t, int more) {
            if (isWithin(s, 0, SHIFTS - 1) && isWithin(t, 0, SHIFTS - 1)) {
                going[s * SHIFTS + t] += more;
            }
        }
    }

    /** One who is dressed: which pieces are worn, and in which order they were put on. */
    private static final class Body {
        private final Wardrobe wardrobe;
        /** Of each piece: 0 if it isn't worn, else the more the later it was put on. */
        private final int[] order = new int[PIECES];
        private int latest;

        Body(Wardrobe wardrobe) {
            this.wardrobe = wardrobe;
        }

        void undress() {
            Arrays.fill(order, 0);
            latest = 0;
        }

        boolean hasOn(int p) {
            return wardrobe.has(p) && p < PIECES && order[p] > 0;
        }

        boolean liesOver(int upper, int lower) {
            return hasOn(upper) && hasOn(lower) && order[upper] > order[lower]
                    && wardrobe.haveOnePlace(upper, lower);
        }

        int countWorn() {
            int worn = 0;
            for (int p = 0; p < PIECES; p++) {
                if (order[p] > 0) {
                    worn++;
                }
            }
            return worn;
        }

        /** False if it can't be done. */
        boolean handle(int v) {
            return v >= 0 ? putOn(v) : takeOff(-1 - v);
        }

        boolean putOn(int p) {
            if (!wardrobe.has(p) || hasOn(p)) {
                return false;
            }
            latest++;
            order[p] = latest;
            return true;
        }

        private boolean takeOff(int p) {
            if (!hasOn(p)) {
                return false;
            }
            for (int q = 0; q < PIECES; q++) {
                if (liesOver(q, p)) {
                    return false;
                }
            }
            order[p] = 0;
            return true;
        }
    }
}
