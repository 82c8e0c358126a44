/** What the tests share: the findings, far numbers, and desks that are made in one line. */
abstract class Wings {
    static final int BEYOND = -1000001;
    static final int NONE = -1000002;
    static final int STATE = -1000003;
    static final int FULL = -1000004;
    static final int KIND = -1000005;
    static final int LEAST = Integer.MIN_VALUE;
    static final int MOST = Integer.MAX_VALUE;

    static final int LOOKS = 12;
    static final int DOORS = 6;

    static final Due DUE = new Due();

    /** From here on it is this sentence of the document that is tried. */
    static void sentence(String words) {
        DUE.sentence(words);
    }

    static void is(String call, int want, int got) {
        DUE.is(call, want, got);
    }

    /** A desk with a piece for each of these hows, ON 10 and OFF 5 (of a TEAR 1), SIZE 40. */
    static WingDesk deskWith(int... hows) {
        WingDesk desk = new WingDesk();
        for (int how : hows) {
            desk.piece(how, how % 10 == 2 ? 1001 : 1005, 400);
        }
        return desk;
    }

    /** A desk with so many pieces, all of this how. */
    static WingDesk deskWithMany(int pieces, int how) {
        int[] hows = new int[pieces];
        java.util.Arrays.fill(hows, how);
        return deskWith(hows);
    }

    static void wearAll(WingDesk desk, int look, int... pieces) {
        desk.bare(look);
        for (int p : pieces) {
            desk.wear(look, p);
        }
    }

    static void tellAll(WingDesk desk, int... handlings) {
        for (int v : handlings) {
            desk.tell(v);
        }
    }

    /** The number that tells that a piece comes off. */
    static int off(int p) {
        return -1 - p;
    }
}
