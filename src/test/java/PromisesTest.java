/** The promises one by one: ordinary inputs, the edges that the document names, and wrong inputs. */
public final class PromisesTest extends Wings {
    public static void main(String[] args) {
        newObject();
        piece();
        pieceBeyond();
        as();
        about();
        wear();
        bare();
        look();
        limit();
        allowed();
        allowedThick();
        told();
        toldByOrder();
        seconds();
        best();
        shift();
        less();
        way();
        fits();
        dressers();
        dressersSentElsewhere();
        worn();
        wash();
        hours();
        tonight();
        tonightSpares();
        tell();
        check();
        checkFindings();
        count();
        found();
        findingsChangeNothing();
        DUE.end("PromisesTest");
    }

    // ---- promise 1

    private static void newObject() {
        WingDesk desk = new WingDesk();
        int[] counts = {0, 0, 0, 0, 0, 8};
        for (int what = 0; what < counts.length; what++) {
            is("new: count(" + what + ")", counts[what], desk.count(what));
        }
        for (int k = 1; k <= 5; k++) {
            is("new: found(" + k + ")", 0, desk.found(k));
        }
        is("new: about(0, 0)", BEYOND, desk.about(0, 0));
        is("new: fits(0)", BEYOND, desk.fits(0));
        is("new: dressers()", 0, desk.dressers());
        for (int look = 0; look < 12; look++) {
            is("new: look(" + look + ", 0)", NONE, desk.look(look, 0));
            is("new: bare(" + look + ")", 0, desk.bare(look));
        }
        is("new: way(0, 5, 1)", 0, desk.way(0, 5, 1));
        is("another new one has its own ways", 0, new WingDesk().way(0, 5, 1));
    }

    // ---- promise 2

    private static void piece() {
        WingDesk desk = new WingDesk();
        is("the least piece", 0, desk.piece(10, 101, 300));
        is("the most piece", 1, desk.piece(15550, 6060, 606));
        is("a wig", 2, desk.piece(3231, 1259, 456));
        is("a tear comes off in 1", 3, desk.piece(12, 6001, 606));
        int[][] due = {
            {0, 0, 1, 1, 1, 0, 30, 0, 0, 0},
            {0, 5, 5, 60, 60, 15, 60, 6, 0, 0},
            {1, 2, 3, 12, 59, 3, 45, 6, 0, 0},
            {2, 0, 1, 60, 1, 0, 60, 6, 0, 0}};
        for (int p = 0; p < due.length; p++) {
            for (int what = 0; what < due[p].length; what++) {
                is("about(" + p + ", " + what + ")", due[p][what], desk.about(p, what));
            }
        }
        for (int p = 4; p < 32; p++) {
            is("piece " + p, p, desk.piece(10, 101, 300));
        }
        is("BEYOND is asked first", BEYOND, desk.piece(0, 101, 300));
        is("33 pieces", FULL, desk.piece(10, 101, 300));
        is("count(0)", 32, desk.count(0));
    }

    private static void pieceBeyond() {
        WingDesk desk = new WingDesk();
        int[] hows = {-1, -10, -1010, 0, 3, 60, 99, 13, 19, 610, 910, 16010, 100010, MOST, LEAST};
        for (int how : hows) {
            is("piece(" + how + ", 101, 300)", BEYOND, desk.piece(how, 101, 300));
        }
        int[] times = {-101, 0, 1, 100, 160, 161, 199, 6100, 6101, 6001 + 10000, 10101, MOST, LEAST};
        for (int seconds : times) {
            boolean good = seconds == 160;
            is("piece(10, " + seconds + ", 300)", good ? 0 : BEYOND, desk.piece(10, seconds, 300));
        }
        int[] sizes = {-300, 0, 299, 290, 296, 307, 309, 607, 610, 616, 3000, MOST, LEAST};
        for (int size : sizes) {
            is("piece(10, 101, " + size + ")", BEYOND, desk.piece(10, 101, size));
        }
        is("a tear that comes off in 2", BEYOND, desk.piece(12, 102, 300));
        is("a wig may come off in 2", 1, desk.piece(11, 102, 300));
        is("count(0)", 2, desk.count(0));
    }

    // ---- promise 3

    private static void as() {
        WingDesk desk = deskWith(310, 411, 512);
        int[][] due = {{3, KIND, KIND}, {4, 4, KIND}, {5, KIND, 5}};
        for (int p = 0; p < 3; p++) {
            for (int kind = 0; kind < 3; kind++) {
                is("as(" + p + ", " + kind + ")", due[p][kind], desk.as(p, kind));
            }
        }
        is("as(3, 0)", BEYOND, desk.as(3, 0));
        is("as(-1, 0)", BEYOND, desk.as(-1, 0));
        is("as(0, 3)", BEYOND, desk.as(0, 3));
        is("as(0, -1)", BEYOND, desk.as(0, -1));
        is("as(MOST, LEAST)", BEYOND, desk.as(MOST, LEAST));
        is("found(5)", 4, desk.found(5));
        is("found(1)", 5, desk.found(1));
    }

    // ---- promise 4

    private static void about() {
        WingDesk desk = deskWith(2331);
        int[] due = {1, 3, 3, 10, 5, 2, 40, 0, 0, 0};
        for (int what = 0; what < due.length; what++) {
            is("about(0, " + what + ")", due[what], desk.about(0, what));
        }
        is("about(0, 10)", BEYOND, desk.about(0, 10));
        is("about(0, -1)", BEYOND, desk.about(0, -1));
        is("about(1, 0)", BEYOND, desk.about(1, 0));
        is("about(-1, 9)", BEYOND, desk.about(-1, 9));
        is("about(LEAST, MOST)", BEYOND, desk.about(LEAST, MOST));
        desk.hours(7);
        desk.worn(0);
        is("worn: where", 1, desk.about(0, 8));
        is("worn: up to", 0, desk.about(0, 9));
        desk.wash(0);
        is("in the wash: where", 2, desk.about(0, 8));
        is("in the wash: up to", 9, desk.about(0, 9));
        desk.hours(2);
        is("wet: where", 3, desk.about(0, 8));
        is("wet: up to", 12, desk.about(0, 9));
        desk.hours(3);
        is("on the rail: where", 0, desk.about(0, 8));
        is("on the rail: up to", 0, desk.about(0, 9));
    }

    // ---- promise 5

    private static void wear() {
        WingDesk desk = deskWith(10, 10, 10, 10, 10, 10, 10, 10, 10);
        for (int p = 0; p < 8; p++) {
            is("wear(11, " + p + ")", p + 1, desk.wear(11, 7 - p));
        }
        for (int i = 0; i < 8; i++) {
            is("look(11, " + i + ")", 7 - i, desk.look(11, i));
        }
        is("a ninth", FULL, desk.wear(11, 8));
        is("STATE is asked ahead of FULL", STATE, desk.wear(11, 3));
        is("another look may have it, too", 1, desk.wear(0, 3));
        is("twice in one", STATE, desk.wear(0, 3));
        is("wear(12, 0)", BEYOND, desk.wear(12, 0));
        is("wear(-1, 0)", BEYOND, desk.wear(-1, 0));
        is("wear(0, 9)", BEYOND, desk.wear(0, 9));
        is("wear(0, -1)", BEYOND, desk.wear(0, -1));
        is("BEYOND is asked first", BEYOND, desk.wear(11, 9));
        desk.worn(4);
        is("where it is doesn't matter", 2, desk.wear(0, 4));
    }

    // ---- promise 6

    private static void bare() {
        WingDesk desk = deskWith(10, 10);
        wearAll(desk, 2, 1, 0);
        desk.wear(3, 1);
        is("bare(2)", 2, desk.bare(2));
        is("bare(2) again", 0, desk.bare(2));
        is("look(2, 0)", NONE, desk.look(2, 0));
        is("the others stay", 1, desk.look(3, 0));
        is("it may be worn again", 1, desk.wear(2, 1));
        is("bare(12)", BEYOND, desk.bare(12));
        is("bare(-1)", BEYOND, desk.bare(-1));
    }

    // ---- promise 7

    private static void look() {
        WingDesk desk = deskWith(10, 10, 10);
        wearAll(desk, 5, 2, 0);
        is("look(5, 0)", 2, desk.look(5, 0));
        is("look(5, 1)", 0, desk.look(5, 1));
        is("look(5, 2)", NONE, desk.look(5, 2));
        is("look(5, -1)", NONE, desk.look(5, -1));
        is("look(5, MOST)", NONE, desk.look(5, MOST));
        is("look(4, 8)", NONE, desk.look(4, 8));
        is("look(12, 0)", BEYOND, desk.look(12, 0));
        is("look(-1, -1)", BEYOND, desk.look(-1, -1));
    }

    // ---- promise 8

    private static void limit() {
        WingDesk desk = new WingDesk();
        is("limit(1)", 8, desk.limit(1));
        is("limit(30)", 1, desk.limit(30));
        is("limit(0)", BEYOND, desk.limit(0));
        is("limit(31)", BEYOND, desk.limit(31));
        is("limit(LEAST)", BEYOND, desk.limit(LEAST));
        is("limit(8)", 30, desk.limit(8));
        is("count(5)", 8, desk.count(5));
    }

    // ---- promise 9

    private static void allowed() {
        WingDesk desk = deskWith(10, 10, 10, 110, 110);
        wearAll(desk, 0, 0, 3);
        wearAll(desk, 1, 1, 0, 2, 4);
        is("nothing", 1, desk.allowed(0, 1, 0));
        is("the first at its place", 1, desk.allowed(0, 1, 1));
        is("one that is in a", 0, desk.allowed(0, 1, 2));
        is("one that is in a, all ahead beneath", 0, desk.allowed(0, 1, 3));
        is("behind one that is in a", 0, desk.allowed(0, 1, 4));
        is("behind one that is in a, the first beneath", 0, desk.allowed(0, 1, 5));
        is("at another place", 1, desk.allowed(0, 1, 8));
        is("at both", 1, desk.allowed(0, 1, 9));
        wearAll(desk, 2, 1, 2, 4);
        is("behind one that isn't beneath", 0, desk.allowed(0, 2, 2));
        is("both", 1, desk.allowed(0, 2, 3));
        is("ahead at another place doesn't matter", 1, desk.allowed(0, 2, 4));
        is("no a", 1, desk.allowed(9, 2, 7));
        is("no b", 1, desk.allowed(0, 9, 0));
        is("bits of no pieces of no b", BEYOND, desk.allowed(0, 9, 1));
        is("bits of no pieces", BEYOND, desk.allowed(0, 2, 8));
        is("bits below and above", BEYOND, desk.allowed(0, 2, 9));
        is("bits below nought", BEYOND, desk.allowed(0, 2, -1));
        is("bits far above", BEYOND, desk.allowed(0, 2, LEAST));
        is("allowed(12, 0, 0)", BEYOND, desk.allowed(12, 0, 0));
        is("allowed(0, 12, 0)", BEYOND, desk.allowed(0, 12, 0));
        is("allowed(-1, 0, 0)", BEYOND, desk.allowed(-1, 0, 0));
        is("allowed(0, -1, 0)", BEYOND, desk.allowed(0, -1, 0));
    }

    private static void allowedThick() {
        WingDesk desk = deskWith(30, 20, 20, 10, 150, 150);
        wearAll(desk, 0, 0, 1, 4);
        wearAll(desk, 1, 2, 3);
        is("5 and 2 and 1 are 8", 1, desk.allowed(0, 1, 3));
        desk.limit(7);
        is("8 above 7", 0, desk.allowed(0, 1, 3));
        is("7 at most", 1, desk.allowed(0, 1, 1));
        desk.limit(6);
        is("7 above 6", 0, desk.allowed(0, 1, 1));
        desk.limit(1);
        is("no place where some are beneath", 1, desk.allowed(0, 1, 0));
        desk.limit(8);
        wearAll(desk, 2, 5, 3);
        is("5 and 5 at place 1", 0, desk.allowed(0, 2, 1));
        is("place 0 alone", 1, desk.allowed(0, 2, 2));
        is("both, one too thick", 0, desk.allowed(0, 2, 3));
        desk.limit(10);
        is("10 at place 1, 6 at place 0", 1, desk.allowed(0, 2, 3));
        wearAll(desk, 3, 2, 0);
        desk.limit(7);
        is("one of a and b counts once", 1, desk.allowed(0, 3, 1));
    }

    // ---- promise 10

    private static void isTold(WingDesk desk, int beneath, int off, int on) {
        is("told(0, 1, " + beneath + ", 0)", Integer.bitCount(off), desk.told(0, 1, beneath, 0));
        is("told(0, 1, " + beneath + ", 1)", Integer.bitCount(on), desk.told(0, 1, beneath, 1));
        is("told(0, 1, " + beneath + ", 2)", off, desk.told(0, 1, beneath, 2));
        is("told(0, 1, " + beneath + ", 3)", on, desk.told(0, 1, beneath, 3));
    }

    private static void told() {
        WingDesk desk = deskWith(10, 10, 10, 10, 110);
        wearAll(desk, 0, 0, 1, 2, 4);
        wearAll(desk, 1, 0, 2, 4);
        isTold(desk, 0, 0b0110, 0b010);
        wearAll(desk, 1, 0, 1, 2, 4);
        isTold(desk, 0, 0, 0);
        wearAll(desk, 1, 3, 0, 1, 2, 4);
        isTold(desk, 0, 0b0111, 0b01111);
        isTold(desk, 1, 0, 0);
        wearAll(desk, 1, 0, 1, 3, 2);
        isTold(desk, 0, 0b1100, 0b1100);
        is("told of what isn't allowed", STATE, desk.told(0, 1, 4, 0));
        wearAll(desk, 1);
        isTold(desk, 0, 0b1111, 0);
        is("told(0, 1, 1, 0)", BEYOND, desk.told(0, 1, 1, 0));
        is("told(0, 1, 0, 4)", BEYOND, desk.told(0, 1, 0, 4));
        is("told(0, 1, 0, -1)", BEYOND, desk.told(0, 1, 0, -1));
        is("told(12, 1, 0, 0)", BEYOND, desk.told(12, 1, 0, 0));
        is("told(0, -1, 0, 0)", BEYOND, desk.told(0, -1, 0, 0));
        is("BEYOND is asked ahead of STATE", BEYOND, desk.told(1, 0, 2, 4));
        is("STATE", STATE, desk.told(1, 0, 2, 3));
    }

    private static void toldByOrder() {
        WingDesk desk = deskWith(10, 10, 10, 110, 10);
        wearAll(desk, 0, 0, 1, 2);
        wearAll(desk, 1, 0, 2, 1);
        isTold(desk, 0, 0b110, 0b110);
        wearAll(desk, 1, 2, 1, 0);
        isTold(desk, 0, 0b111, 0b111);
        wearAll(desk, 0, 0, 3);
        wearAll(desk, 1, 3, 0);
        isTold(desk, 0, 0, 0);
        wearAll(desk, 0, 0, 1);
        wearAll(desk, 1, 1, 0);
        isTold(desk, 0, 0b11, 0b11);
        wearAll(desk, 1, 4, 1, 0);
        isTold(desk, 1, 0b11, 0b110);
        wearAll(desk, 0, 0, 1, 2);
        wearAll(desk, 1, 4, 0, 1);
        isTold(desk, 1, 0b100, 0);
        wearAll(desk, 0, 0, 3, 1);
        wearAll(desk, 1, 1, 3);
        isTold(desk, 0, 0b101, 0b01);
    }

    // ---- promise 11

    private static void seconds() {
        WingDesk desk = new WingDesk();
        desk.piece(10, 710, 400);
        desk.piece(110, 2003, 400);
        desk.piece(211, 409, 400);
        desk.piece(312, 6001, 400);
        wearAll(desk, 0, 0);
        wearAll(desk, 1, 1);
        is("10 off and 20 on by 1", 30, desk.seconds(0, 1, 0, 0));
        is("30 by 2, yet one takes 20", 20, desk.seconds(0, 1, 0, 1));
        is("beneath: 10 by 1", 10, desk.seconds(0, 1, 1, 0));
        is("beneath: one takes 10", 10, desk.seconds(0, 1, 1, 3));
        wearAll(desk, 0, 0, 1, 3);
        wearAll(desk, 1);
        is("14 by 1", 14, desk.seconds(0, 1, 0, 0));
        wearAll(desk, 1, 0, 2);
        is("a wig goes on", NONE, desk.seconds(0, 1, 0, 0));
        is("a wig comes off", NONE, desk.seconds(1, 0, 0, 0));
        is("a wig that is beneath: 3 and 1", 4, desk.seconds(0, 1, 2, 0));
        is("a wig that stays", 0, desk.seconds(1, 1, 0, 0));
        is("3, 1 and 4 by 2", 4, desk.seconds(0, 1, 0, 1));
        is("9, 20 and 60", 60, desk.seconds(1, 0, 0, 1));
        is("nothing to do", 0, desk.seconds(5, 6, 0, 0));
        is("not allowed", STATE, desk.seconds(0, 1, 1, 0));
        is("hands 4", BEYOND, desk.seconds(0, 1, 0, 4));
        is("hands -1", BEYOND, desk.seconds(0, 1, 0, -1));
        is("BEYOND is asked ahead of STATE", BEYOND, desk.seconds(0, 1, 1, 4));
        is("bits of no pieces", BEYOND, desk.seconds(0, 1, 4, 0));
        is("no such look", BEYOND, desk.seconds(12, 1, 0, 0));
        is("no such other look", BEYOND, desk.seconds(0, 12, 0, 0));
        secondsRoundedUp();
    }

    private static void secondsRoundedUp() {
        WingDesk desk = deskWith(10, 10, 10, 10, 10);
        wearAll(desk, 0, 0, 1, 2, 3, 4);
        is("25 by 1", 25, desk.seconds(0, 1, 0, 0));
        is("25 by 2", 13, desk.seconds(0, 1, 0, 1));
        is("25 by 3", 9, desk.seconds(0, 1, 0, 2));
        is("25 by 4", 7, desk.seconds(0, 1, 0, 3));
        wearAll(desk, 0, 0, 1);
        wearAll(desk, 1, 2, 1);
        is("5 and 5, 10 and 10: a single one off or on takes 10", 10, desk.seconds(0, 1, 0, 3));
    }

    // ---- promise 12

    private static void best() {
        WingDesk desk = deskWith(10, 110, 210, 211);
        wearAll(desk, 0, 0);
        wearAll(desk, 1, 1, 2);
        is("both beneath", 3, desk.best(0, 1, 0, 0));
        is("both beneath: 5", 5, desk.best(0, 1, 0, 1));
        is("25 by 4 is 7, one takes 10: both are needed", 3, desk.best(0, 1, 3, 0));
        wearAll(desk, 2, 0, 1);
        is("from the coat to the coat and another: beneath", 2, desk.best(0, 2, 2, 0));
        is("0 seconds", 0, desk.best(0, 2, 2, 1));
        wearAll(desk, 3, 3, 1);
        is("a wig had best be beneath, too", 3, desk.best(0, 3, 0, 0));
        desk.limit(1);
        wearAll(desk, 0, 2);
        is("a wig can't be beneath", NONE, desk.best(0, 3, 0, 0));
        is("never, whatever is asked", NONE, desk.best(0, 3, 0, 1));
        is("with one hand", 2, desk.best(0, 3, 1, 0));
        is("with one hand: 5 and 10 by 2, one takes 10", 10, desk.best(0, 3, 1, 1));
        is("hands 4", BEYOND, desk.best(0, 1, 4, 0));
        is("hands -1", BEYOND, desk.best(0, 1, -1, 0));
        is("what 2", BEYOND, desk.best(0, 1, 0, 2));
        is("what -1", BEYOND, desk.best(0, 1, 0, -1));
        is("no such look", BEYOND, desk.best(12, 1, 0, 0));
        is("no such other look", BEYOND, desk.best(0, -1, 0, 0));
        bestOfEquals();
    }

    private static void bestOfEquals() {
        WingDesk desk = new WingDesk();
        desk.piece(10, 160, 400);
        desk.piece(110, 1001, 400);
        desk.piece(210, 1001, 400);
        desk.piece(310, 1001, 400);
        wearAll(desk, 0, 0);
        wearAll(desk, 1, 1, 2, 3);
        is("60 off alone: with 3 hands none need be beneath", 0, desk.best(0, 1, 3, 0));
        is("60", 60, desk.best(0, 1, 3, 1));
        is("90 by 1: all", 7, desk.best(0, 1, 0, 0));
        is("90 by 2 is 45, less than 60", 0, desk.best(0, 1, 1, 0));
        desk.piece(410, 3030, 400);
        desk.piece(510, 3030, 400);
        wearAll(desk, 2, 1, 2, 3, 5);
        is("60 off and 60 on by 2 is 60: none", 0, desk.best(0, 2, 1, 0));
        wearAll(desk, 2, 1, 2, 3, 4, 5);
        is("60 and 90 by 2 is 75: one of 30 beneath, not three of 10", 8, desk.best(0, 2, 1, 0));
        is("60 and 60 by 2", 60, desk.best(0, 2, 1, 1));
    }

    // ---- promise 13

    private static void shift() {
        WingDesk desk = new WingDesk();
        is("the least shift", 0, desk.shift(0, 0, 1, 0));
        is("the most shift", 1, desk.shift(11115, 19999, 20000, 3));
        int[] hows = {-1, -1000, 6, 9, 120, 990, 12000, 100000, MOST, LEAST};
        for (int how : hows) {
            is("shift(" + how + ", 0, 1, 0)", BEYOND, desk.shift(how, 0, 1, 0));
        }
        is("from below nought", BEYOND, desk.shift(0, -1, 1, 0));
        is("up as from", BEYOND, desk.shift(0, 7, 7, 0));
        is("up ahead of from", BEYOND, desk.shift(0, 7, 6, 0));
        is("up above 20000", BEYOND, desk.shift(0, 7, 20001, 0));
        is("both above 20000", BEYOND, desk.shift(0, 20001, 20002, 0));
        is("hands 4", BEYOND, desk.shift(0, 0, 1, 4));
        is("hands -1", BEYOND, desk.shift(0, 0, 1, -1));
        for (int s = 2; s < 12; s++) {
            is("shift " + s, s, desk.shift(1020, 0, 20000, 3));
        }
        is("BEYOND is asked first", BEYOND, desk.shift(6, 0, 1, 0));
        is("13 shifts", FULL, desk.shift(0, 0, 1, 0));
        is("count(1)", 12, desk.count(1));
    }

    // ---- promise 14

    private static void less() {
        WingDesk desk = new WingDesk();
        is("none", NONE, desk.less());
        desk.shift(0, 100, 200, 3);
        desk.shift(0, 0, 10, 2);
        is("the one that came last goes, not the last in time", 1, desk.less());
        is("3 of the other", 3, desk.dressers());
        is("fits(1)", BEYOND, desk.fits(1));
        is("its number is given again", 1, desk.shift(0, 100, 200, 1));
        is("3 and 1", 4, desk.dressers());
        is("1 is left", 1, desk.less());
        is("0 are left", 0, desk.less());
        is("none are left", NONE, desk.less());
        is("found(2)", 2, desk.found(2));
    }

    // ---- promise 15

    private static void way() {
        WingDesk desk = new WingDesk();
        is("way(0, 5, 600)", 0, desk.way(0, 5, 600));
        is("the same both ways", 600, desk.way(5, 0, 7));
        is("and back", 7, desk.way(0, 5, 0));
        is("others stay", 0, desk.way(0, 4, 1));
        int[][] wrong = {{0, 0, 1}, {5, 5, 0}, {6, 0, 1}, {0, 6, 1}, {-1, 0, 1}, {0, -1, 1},
            {0, 1, -1}, {0, 1, 601}, {LEAST, MOST, 0}, {0, 1, LEAST}};
        for (int[] w : wrong) {
            is("way(" + w[0] + ", " + w[1] + ", " + w[2] + ")", BEYOND, desk.way(w[0], w[1], w[2]));
        }
        is("way(0, 1, 2)", 0, desk.way(0, 1, 2));
    }

    // ---- promise 16

    private static void fits() {
        WingDesk desk = deskWith(10, 10, 11);
        wearAll(desk, 0, 0);
        wearAll(desk, 1, 1);
        desk.shift(10, 100, 104, 3);
        desk.shift(10, 100, 105, 0);
        desk.shift(1000, 100, 105, 0);
        is("5 in 4", 0, desk.fits(0));
        is("5 in 5", 1, desk.fits(1));
        is("the other way round, too", 1, desk.fits(2));
        desk.limit(1);
        is("nothing beneath: 15 in 5", 0, desk.fits(1));
        desk.shift(10, 100, 115, 0);
        is("15 in 15", 1, desk.fits(3));
        desk.wear(1, 2);
        desk.shift(10, 0, 20000, 0);
        desk.shift(10, 0, 20000, 1);
        is("a wig without hands never fits", 0, desk.fits(4));
        is("a wig with hands", 1, desk.fits(5));
        desk.bare(1);
        is("looks count as they are now", 1, desk.fits(1));
        is("fits(6)", BEYOND, desk.fits(6));
        is("fits(-1)", BEYOND, desk.fits(-1));
        is("fits(MOST)", BEYOND, desk.fits(MOST));
    }

    // ---- promise 17

    private static void dressers() {
        WingDesk desk = new WingDesk();
        desk.shift(0, 0, 10, 2);
        is("2", 2, desk.dressers());
        desk.shift(0, 10, 20, 3);
        is("at one door at once", 3, desk.dressers());
        desk.shift(0, 9, 11, 0);
        is("no hands", 3, desk.dressers());
        desk.shift(1, 19, 30, 3);
        is("3 and 3 at once", 6, desk.dressers());
        desk.less();
        desk.shift(1, 25, 30, 3);
        is("all can go on", 3, desk.dressers());
        desk.way(0, 1, 5);
        is("just in time", 3, desk.dressers());
        desk.way(0, 1, 6);
        is("too late from the second, 2 of the first go to one alone", 6, desk.dressers());
        desk.shift(2, 20000 - 1, 20000, 3);
        is("later on all can", 6, desk.dressers());
        dressersGoStraight();
    }

    /** By way of a third door it would be in time; but a dresser goes from shift to shift. */
    private static void dressersGoStraight() {
        WingDesk desk = new WingDesk();
        desk.way(0, 2, 600);
        desk.shift(0, 0, 10, 1);
        desk.shift(2, 20, 30, 1);
        is("too far straight", 2, desk.dressers());
        desk.shift(1, 12, 15, 1);
        is("by way of one that wants a hand", 1, desk.dressers());
        desk.less();
        desk.shift(1, 12, 15, 0);
        is("one without hands is no way", 2, desk.dressers());
    }

    /** The nearest choice is wrong here: one must be sent elsewhere so that another can go on. */
    private static void dressersSentElsewhere() {
        WingDesk desk = new WingDesk();
        desk.way(1, 2, 100);
        desk.way(1, 3, 100);
        desk.way(0, 3, 100);
        desk.shift(0, 0, 10, 2);
        desk.shift(4, 0, 10, 1);
        desk.way(4, 1, 100);
        desk.way(4, 3, 100);
        desk.shift(2, 20, 30, 2);
        desk.shift(1, 20, 30, 2);
        is("2 go to door 1, 1 to door 2", 4, desk.dressers());
        is("asked again", 4, desk.dressers());
    }

    // ---- promise 18

    private static void worn() {
        WingDesk desk = deskWith(10, 10);
        is("worn(0)", 1, desk.worn(0));
        is("where", 1, desk.about(0, 8));
        is("the other one stays", 0, desk.about(1, 8));
        is("worn already", STATE, desk.worn(0));
        desk.wash(0);
        is("in the wash", STATE, desk.worn(0));
        desk.hours(2);
        is("wet", STATE, desk.worn(0));
        desk.hours(1);
        is("on the rail again", 1, desk.worn(0));
        is("worn(2)", BEYOND, desk.worn(2));
        is("worn(-1)", BEYOND, desk.worn(-1));
    }

    // ---- promise 19

    private static void wash() {
        WingDesk desk = deskWith(10, 20, 30, 40, 50, 10, 10, 10);
        is("on the rail", STATE, desk.wash(0));
        for (int p = 0; p < 8; p++) {
            desk.worn(p);
        }
        desk.hours(10);
        for (int p = 0; p < 5; p++) {
            is("wash(" + p + ")", 13 + p, desk.wash(p));
        }
        is("in the wash", STATE, desk.wash(0));
        is("a sixth", 13, desk.wash(5));
        is("a seventh", FULL, desk.wash(6));
        is("still worn", 1, desk.about(6, 8));
        is("STATE is asked ahead of FULL", STATE, desk.wash(0));
        desk.hours(1);
        is("still full", FULL, desk.wash(6));
        desk.hours(1);
        is("wet ones are out of it", 15, desk.wash(6));
        is("wet", STATE, desk.wash(0));
        is("wash(8)", BEYOND, desk.wash(8));
        is("wash(-1)", BEYOND, desk.wash(-1));
        is("found(4)", 2, desk.found(4));
    }

    // ---- promise 20

    private static void hours() {
        WingDesk desk = deskWith(10, 50, 10);
        for (int p = 0; p < 3; p++) {
            desk.worn(p);
        }
        desk.wash(0);
        desk.wash(1);
        is("hours(2)", 0, desk.hours(2));
        desk.wash(2);
        is("one comes", 1, desk.hours(1));
        is("count(2)", 3, desk.count(2));
        is("from the wash to the rail at once, with another", 2, desk.hours(100));
        is("all on the rail", 0, desk.about(0, 8) + desk.about(1, 8) + desk.about(2, 8));
        is("none come any more", 0, desk.hours(100));
        is("count(2)", 203, desk.count(2));
        is("hours(0)", BEYOND, desk.hours(0));
        is("hours(101)", BEYOND, desk.hours(101));
        is("hours(-1)", BEYOND, desk.hours(-1));
        is("hours(MOST)", BEYOND, desk.hours(MOST));
        is("count(2)", 203, desk.count(2));
    }

    // ---- promise 21

    private static void tonight() {
        WingDesk desk = new WingDesk();
        desk.piece(10, 101, 403);
        desk.piece(110, 101, 450);
        is("an empty look", 0, desk.tonight(0, 30));
        wearAll(desk, 0, 0);
        is("one too small", 10, desk.tonight(0, 39));
        is("just fits", 0, desk.tonight(0, 40));
        is("with its span", 0, desk.tonight(0, 43));
        is("one too big", 10, desk.tonight(0, 44));
        is("66", 230, desk.tonight(0, 66));
        is("30", 100, desk.tonight(0, 30));
        desk.wear(0, 1);
        is("two that don't fit", 100 + 150, desk.tonight(0, 30));
        is("one of two", 50, desk.tonight(0, 40));
        desk.worn(0);
        is("where it is doesn't matter", 50, desk.tonight(0, 40));
        is("29", BEYOND, desk.tonight(0, 29));
        is("67", BEYOND, desk.tonight(0, 67));
        is("look 12", BEYOND, desk.tonight(12, 40));
        is("look -1", BEYOND, desk.tonight(-1, 40));
    }

    private static void tonightSpares() {
        WingDesk desk = new WingDesk();
        desk.piece(1010, 101, 400);
        desk.piece(1010, 101, 420);
        desk.piece(1010, 101, 410);
        wearAll(desk, 0, 0, 1, 2);
        is("all altered", 100 + 80 + 90, desk.tonight(0, 50));
        desk.piece(2010, 101, 500);
        is("another name", 270, desk.tonight(0, 50));
        desk.piece(1110, 101, 500);
        is("another place", 270, desk.tonight(0, 50));
        desk.piece(1010, 101, 490);
        is("one that doesn't fit, either", 270, desk.tonight(0, 50));
        desk.piece(1051, 101, 446);
        is("one spare, of another kind and thickness: for the farthest", 171, desk.tonight(0, 50));
        desk.piece(1010, 101, 500);
        is("two spares", 82, desk.tonight(0, 50));
        desk.wear(7, 7);
        is("one that is in a look", 171, desk.tonight(0, 50));
        desk.bare(7);
        is("and in none any more", 82, desk.tonight(0, 50));
        desk.worn(6);
        is("one that is worn", 171, desk.tonight(0, 50));
        desk.wash(6);
        is("in the wash", 171, desk.tonight(0, 50));
        desk.hours(2);
        is("wet", 171, desk.tonight(0, 50));
        desk.hours(5);
        is("on the rail", 82, desk.tonight(0, 50));
        desk.piece(1010, 101, 500);
        desk.piece(1010, 101, 500);
        is("more spares than are needed", 3, desk.tonight(0, 50));
        wearAll(desk, 0, 0, 6);
        is("one of the look that fits is no spare of it", 1, desk.tonight(0, 50));
    }

    // ---- promise 22

    private static void tell() {
        WingDesk desk = new WingDesk();
        int[] any = {0, -1, MOST, LEAST, 32, 99};
        for (int i = 0; i < 30; i++) {
            is("tell " + i, i + 1, desk.tell(any[i % any.length]));
        }
        is("a 31st", FULL, desk.tell(0));
        is("count(3)", 30, desk.count(3));
    }

    // ---- promise 23

    private static void isChecked(String what, WingDesk desk, int beneath, int want, int... handlings) {
        tellAll(desk, handlings);
        is("check: " + what, want, desk.check(0, 1, beneath));
        is("check: " + what + ": none wait", 0, desk.count(3));
    }

    private static void check() {
        WingDesk desk = deskWith(10, 10, 10, 110, 110);
        wearAll(desk, 0, 0, 1, 3);
        wearAll(desk, 1, 0, 2, 4);
        isChecked("done", desk, 0, 0, off(1), 2, off(3), 4);
        isChecked("done in another order", desk, 0, 0, off(3), 4, off(1), 2);
        isChecked("none told", desk, 0, 99);
        isChecked("one short", desk, 0, 99, off(1), 2, off(3));
        isChecked("one too many", desk, 0, 99, off(1), 2, 4);
        isChecked("under another", desk, 0, 1, off(0));
        isChecked("not worn", desk, 0, 2, off(1), off(1), 2);
        isChecked("worn already", desk, 0, 1, 0);
        isChecked("put on twice", desk, 0, 3, off(1), 2, 2);
        isChecked("no piece", desk, 0, 1, 5);
        isChecked("no piece comes off", desk, 0, 2, off(1), off(5));
        isChecked("far beyond", desk, 0, 1, MOST);
        isChecked("far below", desk, 0, 1, LEAST);
        isChecked("off and on again", desk, 0, 0, off(1), off(0), 0, 2, off(3), 3, off(3), 4);
        isChecked("put on below what it should be over", desk, 0, 99, off(1), off(0), 2, 0, off(3), 4);
        isChecked("beneath: all of place 1", desk, 4, 0, off(1), 2, off(3));
        isChecked("beneath: it lies under", desk, 4, 1, off(4));
        isChecked("beneath: worn already", desk, 4, 1, 4);
        wearAll(desk, 1, 2, 0, 4);
        isChecked("two beneath", desk, 5, 0, off(1), off(3));
        isChecked("one of neither goes on and off", desk, 5, 99, off(1), off(3), 1);
        wearAll(desk, 1, 3, 0, 1);
        isChecked("places need no order among them", desk, 0, 0);
        wearAll(desk, 1, 1, 0, 3);
        isChecked("one place needs its order", desk, 0, 99);
        wearAll(desk, 0);
        wearAll(desk, 1, 1, 2);
        isChecked("two beneath nothing, in the order of b", desk, 3, 0);
        isChecked("the upper one is off first", desk, 3, 1, off(1));
        isChecked("30 of them", desk, 3, 30, off(2), 2, off(2), 2, off(2), 2, off(2), 2, off(2), 2, off(2), 2,
            off(2), 2, off(2), 2, off(2), 2, off(2), 2, off(2), 2, off(2), 2, off(2), 2, off(2), 2, off(2), off(2));
    }

    private static void checkFindings() {
        WingDesk desk = deskWith(10, 10);
        wearAll(desk, 0, 0);
        wearAll(desk, 1, 0, 1);
        tellAll(desk, 1);
        is("no such look", BEYOND, desk.check(12, 1, 0));
        is("no such other look", BEYOND, desk.check(0, -1, 0));
        is("bits of no pieces", BEYOND, desk.check(0, 1, 4));
        is("they wait on", 1, desk.count(3));
        is("done", 0, desk.check(0, 1, 0));
        tellAll(desk, 1);
        is("not allowed", STATE, desk.check(0, 1, 1));
        is("they are gone", 0, desk.count(3));
        is("none are told", 99, desk.check(0, 1, 0));
        is("found(1)", 3, desk.found(1));
        is("found(3)", 1, desk.found(3));
    }

    // ---- promise 24

    private static void count() {
        WingDesk desk = deskWith(10, 10, 20);
        desk.shift(0, 0, 1, 1);
        desk.shift(0, 0, 1, 1);
        desk.hours(5);
        tellAll(desk, 1, 2, 3, 4);
        desk.worn(0);
        desk.worn(1);
        desk.wash(0);
        desk.limit(9);
        int[] due = {3, 2, 5, 4, 1, 9};
        for (int what = 0; what < due.length; what++) {
            is("count(" + what + ")", due[what], desk.count(what));
        }
        desk.hours(2);
        is("wet ones aren't in the wash", 0, desk.count(4));
        is("count(6)", BEYOND, desk.count(6));
        is("count(-1)", BEYOND, desk.count(-1));
        is("count(LEAST)", BEYOND, desk.count(LEAST));
    }

    // ---- promise 25

    private static void found() {
        WingDesk desk = deskWith(10);
        is("found(0)", BEYOND, desk.found(0));
        is("found(6)", BEYOND, desk.found(6));
        is("found(-1)", BEYOND, desk.found(-1));
        is("found(LEAST)", BEYOND, desk.found(LEAST));
        is("found(1) counts these", 4, desk.found(1));
        desk.look(0, 0);
        desk.less();
        is("found(2)", 2, desk.found(2));
        desk.wash(0);
        is("found(3)", 1, desk.found(3));
        for (int i = 0; i < 33; i++) {
            desk.tell(i);
        }
        is("found(4)", 3, desk.found(4));
        desk.as(0, 1);
        is("found(5)", 1, desk.found(5));
        is("an answer of 0 or 99 is no finding", 99, tellAndCheck(desk));
        is("found(1)", 4, desk.found(1));
    }

    private static int tellAndCheck(WingDesk desk) {
        desk.check(0, 0, 0);
        desk.tell(0);
        return desk.check(0, 0, 0);
    }

    // ---- findings

    private static void findingsChangeNothing() {
        WingDesk desk = deskWith(10);
        desk.wear(0, 0);
        desk.shift(0, 0, 1, 2);
        desk.way(0, 1, 3);
        desk.piece(0, 0, 0);
        desk.wear(0, 0);
        desk.wear(0, 1);
        desk.limit(31);
        desk.shift(0, 5, 5, 3);
        desk.way(0, 1, 601);
        desk.wash(0);
        desk.hours(101);
        is("one piece", 1, desk.count(0));
        is("one in the look", 0, desk.look(0, 0));
        is("one in the look alone", NONE, desk.look(0, 1));
        is("one shift", 1, desk.count(1));
        is("its dressers", 2, desk.dressers());
        is("the limit", 8, desk.count(5));
        is("the hour", 0, desk.count(2));
        is("the rail", 0, desk.about(0, 8));
        is("the way", 3, desk.way(1, 0, 4));
    }
}
