/**
 * 'Terms': an act "that answers a finding changes nothing but what found() tells". Each act is refused with
 * each of its findings on one desk, and not called on its twin: both must answer alike from then on.
 */
public final class FindingsTest extends Wings {
    private static final int LOW = -1000000;

    private interface Act {
        int on(WingDesk desk);
    }

    public static void main(String[] args) {
        piecesAndLooks();
        changes();
        show();
        wash();
        rest();
        checkState();
        asksChangeNothing();
        DUE.end("FindingsTest");
    }

    /** Something of everything: so that a change of anything is seen. */
    private static WingDesk livedIn() {
        WingDesk desk = deskWith(1010, 1020, 1010, 2131, 2112, 3250, 3240);
        desk.piece(1010, 1005, 500);
        wearAll(desk, 0, 0, 1, 4);
        wearAll(desk, 1, 2, 0, 4);
        wearAll(desk, 2, 3);
        desk.limit(9);
        desk.way(0, 1, 11);
        desk.way(2, 5, 600);
        desk.shift(10, 100, 115, 2);
        desk.shift(1001, 120, 140, 3);
        desk.shift(2, 200, 20000, 1);
        desk.worn(5);
        desk.wash(5);
        desk.hours(2);
        desk.worn(6);
        desk.wash(6);
        desk.worn(3);
        tellAll(desk, off(1), off(0), 2, 0);
        return desk;
    }

    private static void refused(String words, int finding, Act act) {
        refused(words, finding, desk -> 0, act);
    }

    /** The setting is made on both desks, the act on one. */
    private static void refused(String words, int finding, Act setting, Act act) {
        sentence("one that answers a finding changes nothing but what found() tells: " + words);
        WingDesk desk = livedIn();
        WingDesk twin = livedIn();
        setting.on(desk);
        setting.on(twin);
        is("the answer", finding, act.on(desk));
        areAlike(desk, twin, LOW - finding);
    }

    /** They answer alike, but that one act more has answered LOW - k on the first one. */
    private static void areAlike(WingDesk desk, WingDesk twin, int k) {
        for (int other = 1; other <= 5; other++) {
            is("found(" + other + ")", twin.found(other) + (other == k ? 1 : 0), desk.found(other));
        }
        for (int what = 0; what <= 5; what++) {
            is("count(" + what + ")", twin.count(what), desk.count(what));
        }
        piecesAreAlike(desk, twin);
        looksAreAlike(desk, twin);
        showsAreAlike(desk, twin);
        is("the numbers that wait", twin.check(0, 1, 0), desk.check(0, 1, 0));
    }

    private static void piecesAreAlike(WingDesk desk, WingDesk twin) {
        int pieces = twin.count(0);
        for (int p = 0; p < pieces; p++) {
            for (int what = 0; what <= 9; what++) {
                is("about(" + p + ", " + what + ")", twin.about(p, what), desk.about(p, what));
            }
        }
        is("tonight(0, 50)", twin.tonight(0, 50), desk.tonight(0, 50));
    }

    private static void looksAreAlike(WingDesk desk, WingDesk twin) {
        for (int look = 0; look < LOOKS; look++) {
            int want = 0;
            for (int i = 0; i <= 8 && want >= 0; i++) {
                want = twin.look(look, i);
                is("look(" + look + ", " + i + ")", want, desk.look(look, i));
            }
        }
    }

    private static void showsAreAlike(WingDesk desk, WingDesk twin) {
        is("dressers()", twin.dressers(), desk.dressers());
        int shifts = twin.count(1);
        for (int s = 0; s < shifts; s++) {
            is("fits(" + s + ")", twin.fits(s), desk.fits(s));
        }
        for (int a = 0; a < DOORS; a++) {
            for (int b = a + 1; b < DOORS; b++) {
                is("way(" + a + ", " + b + ", 0)", twin.way(a, b, 0), desk.way(a, b, 0));
            }
        }
    }

    private static int fillPieces(WingDesk desk) {
        for (int p = 8; p < 32; p++) {
            desk.piece(10, 101, 300);
        }
        return 0;
    }

    private static int fillLook(WingDesk desk) {
        fillPieces(desk);
        for (int p = 8; p < 16; p++) {
            desk.wear(3, p);
        }
        return 0;
    }

    private static void piecesAndLooks() {
        refused("piece BEYOND (how)", BEYOND, desk -> desk.piece(0, 101, 300));
        refused("piece BEYOND (seconds)", BEYOND, desk -> desk.piece(10, 100, 300));
        refused("piece BEYOND (size)", BEYOND, desk -> desk.piece(10, 101, 299));
        refused("piece FULL", FULL, FindingsTest::fillPieces, desk -> desk.piece(10, 101, 300));
        refused("as BEYOND", BEYOND, desk -> desk.as(8, 0));
        refused("as KIND", KIND, desk -> desk.as(0, 1));
        refused("about BEYOND", BEYOND, desk -> desk.about(0, 10));
        refused("wear BEYOND (the LOOK)", BEYOND, desk -> desk.wear(12, 0));
        refused("wear BEYOND (the PIECE)", BEYOND, desk -> desk.wear(0, 8));
        refused("wear STATE", STATE, desk -> desk.wear(0, 0));
        refused("wear FULL", FULL, FindingsTest::fillLook, desk -> desk.wear(3, 7));
        refused("bare BEYOND", BEYOND, desk -> desk.bare(12));
        refused("look BEYOND", BEYOND, desk -> desk.look(-1, 0));
        refused("look NONE", NONE, desk -> desk.look(0, 3));
        refused("limit BEYOND", BEYOND, desk -> desk.limit(31));
    }

    private static void changes() {
        refused("allowed BEYOND", BEYOND, desk -> desk.allowed(0, 1, 8));
        refused("told BEYOND", BEYOND, desk -> desk.told(0, 1, 0, 4));
        refused("told STATE", STATE, desk -> desk.told(0, 1, 2, 0));
        refused("seconds BEYOND", BEYOND, desk -> desk.seconds(0, 1, 0, 4));
        refused("seconds STATE", STATE, desk -> desk.seconds(0, 1, 2, 0));
        refused("seconds NONE", NONE, desk -> desk.seconds(0, 2, 0, 0));
        refused("best BEYOND", BEYOND, desk -> desk.best(0, 1, 0, 2));
        refused("best NONE", NONE, desk -> desk.best(2, 0, 0, 0));
    }

    private static int fillShow(WingDesk desk) {
        for (int s = 3; s < 12; s++) {
            desk.shift(s % 6, 10 * s, 10 * s + 5, 1);
        }
        return 0;
    }

    private static int emptyShow(WingDesk desk) {
        for (int s = 0; s < 3; s++) {
            desk.less();
        }
        return 0;
    }

    private static void show() {
        refused("shift BEYOND (how)", BEYOND, desk -> desk.shift(6, 0, 1, 1));
        refused("shift BEYOND (from)", BEYOND, desk -> desk.shift(0, -1, 1, 1));
        refused("shift BEYOND (up)", BEYOND, desk -> desk.shift(0, 1, 1, 1));
        refused("shift BEYOND (hands)", BEYOND, desk -> desk.shift(0, 0, 1, 4));
        refused("shift FULL", FULL, FindingsTest::fillShow, desk -> desk.shift(0, 0, 1, 1));
        refused("less NONE", NONE, FindingsTest::emptyShow, WingDesk::less);
        refused("way BEYOND (no DOOR)", BEYOND, desk -> desk.way(0, 6, 1));
        refused("way BEYOND (the same)", BEYOND, desk -> desk.way(1, 1, 1));
        refused("way BEYOND (way)", BEYOND, desk -> desk.way(0, 1, 601));
        refused("fits BEYOND", BEYOND, desk -> desk.fits(3));
    }

    private static int fillWash(WingDesk desk) {
        for (int p = 8; p < 13; p++) {
            desk.piece(10, 101, 300);
            desk.worn(p);
            desk.wash(p);
        }
        return 0;
    }

    private static void wash() {
        refused("worn BEYOND", BEYOND, desk -> desk.worn(8));
        refused("worn STATE (WORN)", STATE, desk -> desk.worn(3));
        refused("worn STATE (WET)", STATE, desk -> desk.worn(5));
        refused("worn STATE (in the WASH)", STATE, desk -> desk.worn(6));
        refused("wash BEYOND", BEYOND, desk -> desk.wash(8));
        refused("wash STATE (on the RAIL)", STATE, desk -> desk.wash(0));
        refused("wash STATE (WET)", STATE, desk -> desk.wash(5));
        refused("wash STATE (in the WASH)", STATE, desk -> desk.wash(6));
        refused("wash FULL", FULL, FindingsTest::fillWash, desk -> desk.wash(3));
        refused("hours BEYOND (0)", BEYOND, desk -> desk.hours(0));
        refused("hours BEYOND (101)", BEYOND, desk -> desk.hours(101));
    }

    private static int fillWaiting(WingDesk desk) {
        for (int i = 4; i < 30; i++) {
            desk.tell(i % 2 == 0 ? off(0) : 0);
        }
        return 0;
    }

    private static void rest() {
        refused("tonight BEYOND (the LOOK)", BEYOND, desk -> desk.tonight(12, 40));
        refused("tonight BEYOND (the SIZE)", BEYOND, desk -> desk.tonight(0, 67));
        refused("tell FULL", FULL, FindingsTest::fillWaiting, desk -> desk.tell(7));
        refused("check BEYOND (a)", BEYOND, desk -> desk.check(12, 1, 0));
        refused("check BEYOND (b)", BEYOND, desk -> desk.check(0, -1, 0));
        refused("check BEYOND (beneath)", BEYOND, desk -> desk.check(0, 1, 8));
        refused("count BEYOND", BEYOND, desk -> desk.count(6));
        refused("found BEYOND (0)", BEYOND, desk -> desk.found(0));
        refused("found BEYOND (6)", BEYOND, desk -> desk.found(6));
    }

    private static void checkState() {
        sentence("one that answers a finding changes nothing: check STATE (they are gone, too), nothing else");
        WingDesk desk = livedIn();
        WingDesk twin = livedIn();
        twin.check(0, 0, 0);
        is("the answer", STATE, desk.check(0, 1, 2));
        areAlike(desk, twin, LOW - STATE);
    }

    private static void asked(String words, int answer, Act act) {
        sentence("an act that only asks changes nothing: " + words);
        WingDesk desk = livedIn();
        is("the answer", answer, act.on(desk));
        areAlike(desk, livedIn(), 0);
    }

    private static void asksChangeNothing() {
        asked("as", 1, desk -> desk.as(3, 1));
        asked("about", 40, desk -> desk.about(3, 6));
        asked("look", 4, desk -> desk.look(0, 2));
        asked("allowed (1)", 1, desk -> desk.allowed(0, 1, 1));
        asked("allowed (0)", 0, desk -> desk.allowed(0, 1, 2));
        asked("told", 0b010, desk -> desk.told(0, 1, 1, 2));
        asked("seconds", 5, desk -> desk.seconds(0, 1, 1, 0));
        asked("best", 1, desk -> desk.best(0, 1, 0, 0));
        asked("fits", 1, desk -> desk.fits(0));
        asked("dressers", 5, WingDesk::dressers);
        asked("tonight", 210, desk -> desk.tonight(0, 47));
        asked("count", 4, desk -> desk.count(3));
        asked("found", 0, desk -> desk.found(5));
    }
}
