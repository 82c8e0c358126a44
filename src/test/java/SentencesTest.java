/** Promises 1 to 25: each sentence that names a boundary case, with a test of its own on desks of its own. */
public final class SentencesTest extends Wings {
    /** Numbers that are none of anything but, where it is told, of a NAME, a SIZE, seconds. */
    private static final int[] FAR = {LEAST, LEAST + 1, -1000001, -1, MOST - 1, MOST};

    public static void main(String[] args) {
        newObject();
        piece();
        as();
        about();
        wear();
        bare();
        look();
        limit();
        allowed();
        told();
        seconds();
        best();
        shift();
        less();
        way();
        fits();
        dressers();
        worn();
        wash();
        hours();
        tonight();
        tell();
        check();
        count();
        found();
        DUE.end("SentencesTest");
    }

    // ---- promise 1

    private static void newObject() {
        noPieces();
        noShifts();
        desksAreApart();
    }

    private static void noPieces() {
        sentence("1: No PIECES");
        WingDesk desk = new WingDesk();
        is("count(0)", 0, desk.count(0));
        is("about(0, 0)", BEYOND, desk.about(0, 0));
        is("wear(0, 0)", BEYOND, desk.wear(0, 0));
        is("worn(0)", BEYOND, desk.worn(0));
        is("the first one's number", 0, desk.piece(10, 101, 300));
    }

    private static void noShifts() {
        sentence("1: no SHIFTS");
        WingDesk desk = new WingDesk();
        is("count(1)", 0, desk.count(1));
        is("fits(0)", BEYOND, desk.fits(0));
        is("less()", NONE, desk.less());
        is("dressers()", 0, desk.dressers());
        is("the first one's number", 0, desk.shift(0, 0, 1, 0));
    }

    private static void desksAreApart() {
        sentence("1: A new object (another one's calls don't change it)");
        WingDesk first = deskWith(10);
        first.wear(0, 0);
        first.shift(0, 0, 1, 3);
        first.way(0, 1, 5);
        first.limit(3);
        first.hours(7);
        first.tell(0);
        first.less();
        first.less();
        WingDesk second = new WingDesk();
        int[] counts = {0, 0, 0, 0, 0, 8};
        for (int what = 0; what < counts.length; what++) {
            is("count(" + what + ")", counts[what], second.count(what));
        }
        is("found(2)", 0, second.found(2));
        is("bare(0)", 0, second.bare(0));
        is("way(0, 1, 0)", 0, second.way(0, 1, 0));
    }

    // ---- promise 2

    private static void piece() {
        pieceOnTheRail();
        pieceNumbers();
        pieceBeyondHow();
        pieceBeyondSeconds();
        pieceBeyondSize();
        pieceFull();
    }

    private static void pieceOnTheRail() {
        sentence("2: A PIECE comes, on the RAIL: its number");
        WingDesk desk = new WingDesk();
        is("its number", 0, desk.piece(10, 101, 300));
        is("the next one's number", 1, desk.piece(10, 101, 300));
        is("where it is", 0, desk.about(1, 8));
        desk.worn(0);
        desk.piece(10, 101, 300);
        is("others don't matter", 0, desk.about(2, 8));
    }

    private static void isPiece(String which, WingDesk desk, int p, int... facts) {
        for (int what = 0; what < facts.length; what++) {
            is(which + ": about(" + p + ", " + what + ")", facts[what], desk.about(p, what));
        }
    }

    private static void pieceNumbers() {
        sentence("2: how: 1000 times NAME, 100 times PLACE, 10 times THICK, and KIND; seconds: ..; size: ..");
        WingDesk desk = new WingDesk();
        desk.piece(10, 101, 300);
        desk.piece(15550, 6060, 606);
        desk.piece(15552, 6001, 606);
        desk.piece(7341, 1259, 452);
        isPiece("all least", desk, 0, 0, 0, 1, 1, 1, 0, 30, 0);
        isPiece("all most", desk, 1, 0, 5, 5, 60, 60, 15, 60, 6);
        isPiece("all most of a TEAR", desk, 2, 2, 5, 5, 60, 1, 15, 60, 6);
        isPiece("all different", desk, 3, 1, 3, 4, 12, 59, 7, 45, 2);
    }

    private static void pieceBeyondHow() {
        sentence("2: BEYOND: a number isn't as told (how)");
        WingDesk desk = new WingDesk();
        int[] wrong = {0, 13, 60, 610, 16010, 16550, 100010, -10, -990, LEAST, LEAST + 1, MOST};
        for (int how : wrong) {
            is("piece(" + how + ", 101, 300)", BEYOND, desk.piece(how, 101, 300));
        }
        is("none came", 0, desk.count(0));
    }

    private static void pieceBeyondSeconds() {
        sentence("2: BEYOND: a number isn't as told (seconds)");
        WingDesk desk = new WingDesk();
        int[] wrong = {0, 1, 60, 100, 161, 6061, 6100, 6101, 10101, -101, LEAST, LEAST + 1, MOST};
        for (int seconds : wrong) {
            is("piece(10, " + seconds + ", 300)", BEYOND, desk.piece(10, seconds, 300));
        }
        is("of a TEAR", BEYOND, desk.piece(12, 102, 300));
        is("none came", 0, desk.count(0));
    }

    private static void pieceBeyondSize() {
        sentence("2: BEYOND: a number isn't as told (size)");
        WingDesk desk = new WingDesk();
        int[] wrong = {0, 6, 30, 299, 307, 607, 610, 3000, -300, LEAST, LEAST + 1, MOST};
        for (int size : wrong) {
            is("piece(10, 101, " + size + ")", BEYOND, desk.piece(10, 101, size));
        }
        is("none came", 0, desk.count(0));
    }

    private static void pieceFull() {
        sentence("2: FULL");
        WingDesk desk = deskWithMany(31, 10);
        is("a 32nd", 31, desk.piece(10, 101, 300));
        is("a 33rd", FULL, desk.piece(10, 101, 300));
        is("once more", FULL, desk.piece(10, 101, 300));
        is("count(0)", 32, desk.count(0));
    }

    // ---- promise 3

    private static void as() {
        asBeyondPiece();
        asBeyondKind();
        asKind();
    }

    private static void asBeyondPiece() {
        sentence("3: BEYOND: there is no such one");
        WingDesk desk = deskWith(310, 510);
        is("as(1, 0)", 5, desk.as(1, 0));
        is("as(2, 0)", BEYOND, desk.as(2, 0));
        is("as(32, 0)", BEYOND, desk.as(32, 0));
        for (int p : FAR) {
            is("as(" + p + ", 0)", BEYOND, desk.as(p, 0));
        }
    }

    private static void asBeyondKind() {
        sentence("3: BEYOND: there is no such kind");
        WingDesk desk = deskWith(312);
        is("as(0, 2)", 3, desk.as(0, 2));
        is("as(0, 3)", BEYOND, desk.as(0, 3));
        for (int kind : FAR) {
            is("as(0, " + kind + ")", BEYOND, desk.as(0, kind));
        }
    }

    private static void asKind() {
        sentence("3: KIND: it isn't of that kind, nor of one under it");
        WingDesk desk = deskWith(110, 211, 312);
        int[][] due = {{1, KIND, KIND}, {2, 2, KIND}, {3, KIND, 3}};
        for (int p = 0; p < due.length; p++) {
            for (int kind = 0; kind < due[p].length; kind++) {
                is("as(" + p + ", " + kind + ")", due[p][kind], desk.as(p, kind));
            }
        }
    }

    // ---- promise 4

    private static void about() {
        aboutHour();
        aboutBeyondPiece();
        aboutBeyondWhat();
    }

    private static void aboutHour() {
        sentence("4: 9 the HOUR up to which it is in the WASH, or WET (0 else)");
        WingDesk desk = deskWith(30);
        desk.hours(100);
        is("on the RAIL", 0, desk.about(0, 9));
        desk.worn(0);
        is("WORN", 0, desk.about(0, 9));
        desk.wash(0);
        is("in the WASH", 102, desk.about(0, 9));
        desk.hours(1);
        is("in the WASH an HOUR later", 102, desk.about(0, 9));
        desk.hours(1);
        is("WET", 105, desk.about(0, 9));
        desk.hours(2);
        is("WET in its last HOUR", 105, desk.about(0, 9));
        desk.hours(1);
        is("on the RAIL again", 0, desk.about(0, 9));
    }

    private static void aboutBeyondPiece() {
        sentence("4: BEYOND: there is no such one");
        WingDesk desk = deskWith(10, 20);
        is("about(1, 2)", 2, desk.about(1, 2));
        is("about(2, 2)", BEYOND, desk.about(2, 2));
        is("about(32, 2)", BEYOND, desk.about(32, 2));
        for (int p : FAR) {
            is("about(" + p + ", 2)", BEYOND, desk.about(p, 2));
        }
    }

    private static void aboutBeyondWhat() {
        sentence("4: BEYOND: another what");
        WingDesk desk = deskWith(12, 10);
        is("about(0, 0)", 2, desk.about(0, 0));
        is("about(0, 9)", 0, desk.about(0, 9));
        is("about(0, 10)", BEYOND, desk.about(0, 10));
        for (int what : FAR) {
            is("about(0, " + what + ")", BEYOND, desk.about(0, what));
            is("about(1, " + what + ")", BEYOND, desk.about(1, what));
        }
    }

    // ---- promise 5

    private static void wear() {
        wearLast();
        wearBeyondLook();
        wearBeyondPiece();
        wearState();
        wearFull();
    }

    private static void wearLast() {
        sentence("5: A PIECE is put on last in a LOOK: how many it has");
        WingDesk desk = deskWith(10, 10);
        is("the first", 1, desk.wear(0, 1));
        is("the second", 2, desk.wear(0, 0));
        is("it is last", 0, desk.look(0, 1));
        is("others don't count", 1, desk.wear(1, 0));
    }

    private static void wearBeyondLook() {
        sentence("5: BEYOND: there is no such LOOK");
        WingDesk desk = deskWith(10);
        is("wear(0, 0)", 1, desk.wear(0, 0));
        is("wear(11, 0)", 1, desk.wear(11, 0));
        is("wear(12, 0)", BEYOND, desk.wear(12, 0));
        for (int look : FAR) {
            is("wear(" + look + ", 0)", BEYOND, desk.wear(look, 0));
        }
    }

    private static void wearBeyondPiece() {
        sentence("5: BEYOND: there is no such PIECE");
        WingDesk desk = deskWith(10, 10);
        is("wear(0, 2)", BEYOND, desk.wear(0, 2));
        is("wear(0, 32)", BEYOND, desk.wear(0, 32));
        for (int p : FAR) {
            is("wear(0, " + p + ")", BEYOND, desk.wear(0, p));
        }
        is("none came into it", NONE, desk.look(0, 0));
        is("wear(0, 1)", 1, desk.wear(0, 1));
    }

    private static void wearState() {
        sentence("5: STATE: it is in it");
        WingDesk desk = deskWithMany(8, 10);
        for (int p = 0; p < 8; p++) {
            desk.wear(0, p);
            is("wear(0, 0) when it has " + (p + 1), STATE, desk.wear(0, 0));
            is("the last one again", STATE, desk.wear(0, p));
        }
        is("in another one it isn't", 1, desk.wear(1, 0));
    }

    private static void wearFull() {
        sentence("5: FULL");
        WingDesk desk = deskWithMany(9, 10);
        for (int p = 0; p < 7; p++) {
            desk.wear(11, p);
        }
        is("an eighth", 8, desk.wear(11, 7));
        is("a ninth", FULL, desk.wear(11, 8));
        is("no ninth is in it", NONE, desk.look(11, 8));
        desk.bare(11);
        is("there is room again", 1, desk.wear(11, 8));
    }

    // ---- promise 6

    private static void bare() {
        bareHowMany();
        bareBeyond();
    }

    private static void bareHowMany() {
        sentence("6: A LOOK has no PIECES any more: how many it had");
        WingDesk desk = deskWithMany(8, 10);
        is("one that has none", 0, desk.bare(4));
        wearAll(desk, 4, 0, 1, 2, 3, 4, 5, 6, 7);
        wearAll(desk, 3, 0);
        wearAll(desk, 5, 1);
        is("one that is full", 8, desk.bare(4));
        is("none any more", NONE, desk.look(4, 0));
        is("once more", 0, desk.bare(4));
        is("the one ahead stays", 0, desk.look(3, 0));
        is("the one behind stays", 1, desk.look(5, 0));
    }

    private static void bareBeyond() {
        sentence("6: BEYOND");
        WingDesk desk = deskWith(10);
        desk.wear(11, 0);
        is("bare(12)", BEYOND, desk.bare(12));
        for (int look : FAR) {
            is("bare(" + look + ")", BEYOND, desk.bare(look));
        }
        is("bare(11)", 1, desk.bare(11));
        is("bare(0)", 0, desk.bare(0));
    }

    // ---- promise 7

    private static void look() {
        lookBeyond();
        lookNone();
    }

    private static void lookBeyond() {
        sentence("7: BEYOND: there is no such LOOK");
        WingDesk desk = deskWith(10);
        desk.wear(0, 0);
        desk.wear(11, 0);
        is("look(0, 0)", 0, desk.look(0, 0));
        is("look(11, 0)", 0, desk.look(11, 0));
        is("look(12, 0)", BEYOND, desk.look(12, 0));
        for (int look : FAR) {
            is("look(" + look + ", 0)", BEYOND, desk.look(look, 0));
        }
    }

    private static void lookNone() {
        sentence("7: NONE");
        WingDesk desk = deskWithMany(8, 10);
        wearAll(desk, 4, 7, 6, 5, 4, 3, 2, 1, 0);
        wearAll(desk, 6, 0);
        is("the last of eight", 0, desk.look(4, 7));
        is("a ninth", NONE, desk.look(4, 8));
        is("of one that has none", NONE, desk.look(5, 0));
        is("behind the only one", NONE, desk.look(6, 1));
        for (int i : FAR) {
            is("look(6, " + i + ")", NONE, desk.look(6, i));
        }
        desk.bare(4);
        is("of one that has none any more", NONE, desk.look(4, 0));
    }

    // ---- promise 8

    private static void limit() {
        limitWas();
        limitBeyond();
    }

    private static void limitWas() {
        sentence("8: LIMIT: what it was");
        WingDesk desk = new WingDesk();
        is("at first", 8, desk.limit(1));
        is("the least", 1, desk.limit(30));
        is("the most", 30, desk.limit(30));
        is("the same", 30, desk.limit(8));
    }

    private static void limitBeyond() {
        sentence("8: BEYOND");
        WingDesk desk = new WingDesk();
        is("limit(0)", BEYOND, desk.limit(0));
        is("limit(31)", BEYOND, desk.limit(31));
        for (int v : FAR) {
            is("limit(" + v + ")", BEYOND, desk.limit(v));
        }
        is("it stays", 8, desk.count(5));
    }

    // ---- promise 9

    /** LOOK 0 has a PIECE; LOOK 1 has one beneath which it may lie, and one that may not. */
    private static WingDesk deskForChange() {
        WingDesk desk = deskWith(10, 10, 110);
        wearAll(desk, 0, 0);
        wearAll(desk, 1, 1, 0, 2);
        return desk;
    }

    private static void allowed() {
        allowedOrNot();
        allowedBeyondLook();
        allowedBeyondBits();
        allowedBeyondBitsOfEight();
    }

    private static void allowedOrNot() {
        sentence("9: 1 what is told to be BENEATH (as bits of b's row) is ALLOWED, else 0");
        WingDesk desk = deskForChange();
        int[] due = {1, 1, 0, 0, 1, 1, 0, 0};
        for (int beneath = 0; beneath < due.length; beneath++) {
            is("allowed(0, 1, " + beneath + ")", due[beneath], desk.allowed(0, 1, beneath));
        }
        is("0 is no finding", 0, desk.found(3));
        is("nothing from nothing to nothing", 1, desk.allowed(10, 11, 0));
    }

    private static void allowedBeyondLook() {
        sentence("9: BEYOND: there is no such LOOK (either)");
        WingDesk desk = deskForChange();
        is("a 12", BEYOND, desk.allowed(12, 1, 0));
        is("b 12", BEYOND, desk.allowed(0, 12, 0));
        for (int look : FAR) {
            is("a " + look, BEYOND, desk.allowed(look, 1, 0));
            is("b " + look, BEYOND, desk.allowed(0, look, 0));
        }
        is("a 11", 1, desk.allowed(11, 1, 0));
        is("b 11", 1, desk.allowed(0, 11, 0));
    }

    private static void allowedBeyondBits() {
        sentence("9: BEYOND: beneath has bits of no PIECES");
        WingDesk desk = deskForChange();
        for (int bit = 3; bit < 32; bit++) {
            is("bit " + bit + " alone", BEYOND, desk.allowed(0, 1, 1 << bit));
            is("bit " + bit + " and the lowest", BEYOND, desk.allowed(0, 1, 1 << bit | 1));
        }
        is("all bits", BEYOND, desk.allowed(0, 1, -1));
        is("a bit of a, where b has none", BEYOND, desk.allowed(1, 2, 1));
    }

    private static void allowedBeyondBitsOfEight() {
        sentence("9: BEYOND: beneath has bits of no PIECES (of eight PIECES)");
        WingDesk desk = deskWithMany(8, 10);
        wearAll(desk, 1, 0, 1, 2, 3, 4, 5, 6, 7);
        is("all eight", 1, desk.allowed(0, 1, 255));
        is("a ninth", BEYOND, desk.allowed(0, 1, 256));
        is("a ninth, too", BEYOND, desk.allowed(0, 1, 511));
        is("the last bit", BEYOND, desk.allowed(0, 1, LEAST));
        desk.bare(1);
        is("none any more", BEYOND, desk.allowed(0, 1, 1));
        is("nothing", 1, desk.allowed(0, 1, 0));
    }

    // ---- promise 10

    private static void told() {
        toldWhat();
        toldBeyond();
        toldBeyondWhat();
        toldState();
    }

    private static void toldWhat() {
        sentence("10: what 0 how many are OFF, 1 how many are ON, 2 OFF as bits of a's row, 3 ON as bits of b's row");
        WingDesk desk = deskWith(10, 110, 210, 310, 410, 510, 10, 110, 210, 310, 410, 510);
        wearAll(desk, 0, 0, 1, 2, 3, 4, 5);
        wearAll(desk, 1, 0, 1, 2, 3, 10, 11, 6, 7);
        int[] due = {2, 4, 0b110000, 0b11110000};
        for (int what = 0; what < 4; what++) {
            is("told(0, 1, 0, " + what + ")", due[what], desk.told(0, 1, 0, what));
            is("nothing to do: " + what, 0, desk.told(0, 0, 0, what));
            is("nothing from nothing to nothing: " + what, 0, desk.told(10, 11, 0, what));
        }
    }

    private static void toldBeyond() {
        sentence("10: BEYOND: as of allowed()");
        WingDesk desk = deskForChange();
        is("a 12", BEYOND, desk.told(12, 1, 0, 0));
        is("b 12", BEYOND, desk.told(0, 12, 0, 0));
        is("a fourth bit", BEYOND, desk.told(0, 1, 8, 0));
        is("all bits", BEYOND, desk.told(0, 1, -1, 0));
        for (int look : FAR) {
            is("a " + look, BEYOND, desk.told(look, 1, 0, 0));
            is("b " + look, BEYOND, desk.told(0, look, 0, 0));
        }
    }

    private static void toldBeyondWhat() {
        sentence("10: BEYOND: another what");
        WingDesk desk = deskForChange();
        is("what 4", BEYOND, desk.told(0, 1, 0, 4));
        for (int what : FAR) {
            is("what " + what, BEYOND, desk.told(0, 1, 0, what));
        }
    }

    private static void toldState() {
        sentence("10: STATE: it isn't ALLOWED");
        WingDesk desk = deskForChange();
        for (int what = 0; what < 4; what++) {
            is("told(0, 1, 2, " + what + ")", STATE, desk.told(0, 1, 2, what));
        }
        is("one that is ALLOWED", 0, desk.told(0, 1, 1, 0));
    }

    // ---- promise 11

    private static void seconds() {
        secondsBeyond();
        secondsBeyondHands();
        secondsState();
        secondsNone();
    }

    private static void secondsBeyond() {
        sentence("11: BEYOND: as of allowed()");
        WingDesk desk = deskForChange();
        is("a 12", BEYOND, desk.seconds(12, 1, 0, 0));
        is("b 12", BEYOND, desk.seconds(0, 12, 0, 0));
        is("a fourth bit", BEYOND, desk.seconds(0, 1, 8, 0));
        is("all bits", BEYOND, desk.seconds(0, 1, -1, 0));
        for (int look : FAR) {
            is("a " + look, BEYOND, desk.seconds(look, 1, 0, 0));
            is("b " + look, BEYOND, desk.seconds(0, look, 0, 0));
        }
    }

    private static void secondsBeyondHands() {
        sentence("11: BEYOND: hands isn't 0 .. 3");
        WingDesk desk = deskForChange();
        is("hands 0: 5 and 30", 35, desk.seconds(0, 1, 0, 0));
        is("hands 3: one takes 10", 10, desk.seconds(0, 1, 0, 3));
        is("hands 4", BEYOND, desk.seconds(0, 1, 0, 4));
        for (int hands : FAR) {
            is("hands " + hands, BEYOND, desk.seconds(0, 1, 0, hands));
        }
    }

    private static void secondsState() {
        sentence("11: STATE: it isn't ALLOWED");
        WingDesk desk = deskForChange();
        is("one that is in a", STATE, desk.seconds(0, 1, 2, 3));
        desk.limit(1);
        is("too THICK", STATE, desk.seconds(0, 1, 1, 3));
        is("just as THICK as may be", 10, desk.seconds(0, 1, 4, 3));
    }

    private static void secondsNone() {
        sentence("11: NONE: NEVER");
        WingDesk desk = deskWith(11, 110);
        wearAll(desk, 0, 1);
        wearAll(desk, 1, 0);
        is("without hands", NONE, desk.seconds(0, 1, 0, 0));
        is("with a hand", 10, desk.seconds(0, 1, 0, 1));
        is("BENEATH", 5, desk.seconds(0, 1, 1, 0));
    }

    // ---- promise 12

    private static void best() {
        bestBeyondLook();
        bestBeyondHands();
        bestBeyondWhat();
        bestNone();
    }

    private static void bestBeyondLook() {
        sentence("12: BEYOND: there is no such LOOK (either)");
        WingDesk desk = deskForChange();
        is("a 11", 0, desk.best(11, 11, 0, 0));
        is("a 12", BEYOND, desk.best(12, 1, 0, 0));
        is("b 12", BEYOND, desk.best(0, 12, 0, 0));
        for (int look : FAR) {
            is("a " + look, BEYOND, desk.best(look, 1, 0, 0));
            is("b " + look, BEYOND, desk.best(0, look, 0, 0));
        }
    }

    private static void bestBeyondHands() {
        sentence("12: BEYOND: there is no such hands");
        WingDesk desk = deskForChange();
        is("hands 0", 5, desk.best(0, 1, 0, 0));
        is("hands 3", 5, desk.best(0, 1, 3, 0));
        is("hands 4", BEYOND, desk.best(0, 1, 4, 0));
        for (int hands : FAR) {
            is("hands " + hands, BEYOND, desk.best(0, 1, hands, 0));
        }
    }

    private static void bestBeyondWhat() {
        sentence("12: BEYOND: another what");
        WingDesk desk = deskForChange();
        is("what 0", 5, desk.best(0, 1, 0, 0));
        is("what 1", 0, desk.best(0, 1, 0, 1));
        is("what 2", BEYOND, desk.best(0, 1, 0, 2));
        for (int what : FAR) {
            is("what " + what, BEYOND, desk.best(0, 1, 0, what));
        }
    }

    private static void bestNone() {
        sentence("12: NONE: NEVER (with any)");
        WingDesk desk = deskWith(10, 11, 110);
        wearAll(desk, 0, 0);
        wearAll(desk, 1, 0, 1, 2);
        is("it can't be BENEATH: as bits", NONE, desk.best(0, 1, 0, 0));
        is("it can't be BENEATH: its SECONDS", NONE, desk.best(0, 1, 0, 1));
        is("with a hand", 0, desk.best(0, 1, 1, 0));
        wearAll(desk, 1, 1, 0);
        is("NEVER with some alone", 1, desk.best(0, 1, 0, 0));
    }

    // ---- promise 13

    private static void shift() {
        shiftNumber();
        shiftHow();
        shiftBeyondHow();
        shiftBeyondFrom();
        shiftBeyondUp();
        shiftBeyondHands();
        shiftFull();
    }

    private static void shiftNumber() {
        sentence("13: A SHIFT comes: its number");
        WingDesk desk = new WingDesk();
        is("its number", 0, desk.shift(0, 0, 1, 0));
        is("the next one's", 1, desk.shift(0, 0, 1, 0));
        desk.less();
        is("the number is given again", 1, desk.shift(0, 0, 1, 0));
    }

    private static void shiftHow() {
        sentence("13: how: 1000 times a, 10 times b, and DOOR");
        WingDesk desk = deskWith(10);
        desk.wear(11, 0);
        desk.limit(1);
        desk.shift(11105, 0, 1, 1);
        desk.shift(11115, 0, 1, 0);
        desk.shift(10110, 0, 1, 1);
        is("from 11 to 10", 0, desk.fits(0));
        is("from 11 to 11", 1, desk.fits(1));
        is("from 10 to 11, BENEATH", 1, desk.fits(2));
        is("two HANDS", 2, desk.dressers());
        desk.way(0, 5, 600);
        desk.shift(5, 1, 2, 1);
        is("from DOOR 5, not from DOOR 0", 2, desk.dressers());
        desk.way(0, 5, 0);
        desk.way(4, 5, 1);
        desk.less();
        desk.shift(4, 1, 2, 2);
        is("from DOOR 0, not from DOOR 5", 3, desk.dressers());
    }

    private static void shiftBeyondHow() {
        sentence("13: BEYOND: a number isn't as told (how)");
        WingDesk desk = new WingDesk();
        int[] wrong = {6, 9, 120, 125, 990, 12000, 11120, 11116, 100000, MOST - 1, MOST, -1, -10, -1000, LEAST};
        for (int how : wrong) {
            is("shift(" + how + ", 0, 1, 0)", BEYOND, desk.shift(how, 0, 1, 0));
        }
        is("none came", 0, desk.count(1));
        is("the most", 0, desk.shift(11115, 0, 1, 0));
    }

    private static void shiftBeyondFrom() {
        sentence("13: BEYOND: a number isn't as told (from)");
        WingDesk desk = new WingDesk();
        is("from -1", BEYOND, desk.shift(0, -1, 1, 0));
        is("from 20001", BEYOND, desk.shift(0, 20001, 20002, 0));
        for (int from : FAR) {
            is("from " + from, BEYOND, desk.shift(0, from, 20000, 0));
        }
        is("none came", 0, desk.count(1));
        is("from 0", 0, desk.shift(0, 0, 20000, 0));
        is("from 19999", 1, desk.shift(0, 19999, 20000, 0));
    }

    private static void shiftBeyondUp() {
        sentence("13: BEYOND: up: not behind from");
        WingDesk desk = new WingDesk();
        is("up as from", BEYOND, desk.shift(0, 7, 7, 0));
        is("up ahead of from", BEYOND, desk.shift(0, 7, 6, 0));
        is("up 0 as from", BEYOND, desk.shift(0, 0, 0, 0));
        is("up 20001", BEYOND, desk.shift(0, 7, 20001, 0));
        for (int up : FAR) {
            is("up " + up, BEYOND, desk.shift(0, 0, up, 0));
        }
        is("none came", 0, desk.count(1));
        is("up just behind from", 0, desk.shift(0, 7, 8, 0));
    }

    private static void shiftBeyondHands() {
        sentence("13: BEYOND: a number isn't as told (hands)");
        WingDesk desk = new WingDesk();
        is("hands 4", BEYOND, desk.shift(0, 0, 1, 4));
        for (int hands : FAR) {
            is("hands " + hands, BEYOND, desk.shift(0, 0, 1, hands));
        }
        is("none came", 0, desk.count(1));
        is("hands 0", 0, desk.shift(0, 0, 1, 0));
        is("hands 3", 1, desk.shift(0, 0, 1, 3));
    }

    private static void shiftFull() {
        sentence("13: FULL");
        WingDesk desk = new WingDesk();
        for (int s = 0; s < 11; s++) {
            desk.shift(0, 0, 1, 0);
        }
        is("a 12th", 11, desk.shift(0, 0, 1, 0));
        is("a 13th", FULL, desk.shift(0, 0, 1, 0));
        desk.less();
        is("there is room again", 11, desk.shift(0, 0, 1, 0));
    }

    // ---- promise 14

    private static void less() {
        lessLatest();
        lessNone();
    }

    private static void lessLatest() {
        sentence("14: The latest SHIFT goes: how many are left");
        WingDesk desk = new WingDesk();
        desk.shift(0, 100, 200, 3);
        desk.shift(0, 0, 10, 1);
        desk.shift(0, 50, 60, 2);
        is("the third goes", 2, desk.less());
        is("the second goes", 1, desk.less());
        is("the first stays, though it is last in time", 3, desk.dressers());
        is("it goes", 0, desk.less());
    }

    private static void lessNone() {
        sentence("14: NONE");
        WingDesk desk = new WingDesk();
        is("at first", NONE, desk.less());
        desk.shift(0, 0, 1, 1);
        desk.less();
        is("none are left", NONE, desk.less());
        is("once more", NONE, desk.less());
        is("count(1)", 0, desk.count(1));
        is("its number", 0, desk.shift(0, 0, 1, 1));
    }

    // ---- promise 15

    private static void way() {
        wayWas();
        wayBeyondDoor();
        wayBeyondSame();
        wayBeyondWay();
    }

    private static void wayWas() {
        sentence("15: WAY between two DOORS: what it was");
        WingDesk desk = new WingDesk();
        int[][] told = new int[DOORS][DOORS];
        for (int a = 0; a < DOORS; a++) {
            for (int b = a + 1; b < DOORS; b++) {
                told[a][b] = 600 - 10 * a - b;
                is("at first: way(" + a + ", " + b + ")", 0, desk.way(a, b, told[a][b]));
            }
        }
        for (int a = 0; a < DOORS; a++) {
            for (int b = a + 1; b < DOORS; b++) {
                is("way(" + b + ", " + a + ")", told[a][b], desk.way(b, a, 0));
            }
        }
    }

    private static void wayBeyondDoor() {
        sentence("15: BEYOND: there is no such DOOR");
        WingDesk desk = new WingDesk();
        is("from 6", BEYOND, desk.way(6, 0, 1));
        is("to 6", BEYOND, desk.way(0, 6, 1));
        for (int door : FAR) {
            is("from " + door, BEYOND, desk.way(door, 0, 1));
            is("to " + door, BEYOND, desk.way(0, door, 1));
        }
        is("from 5", 0, desk.way(5, 0, 1));
        is("to 5", 1, desk.way(0, 5, 1));
    }

    private static void wayBeyondSame() {
        sentence("15: BEYOND: they are the same");
        WingDesk desk = new WingDesk();
        for (int door = 0; door < DOORS; door++) {
            is("way(" + door + ", " + door + ", 0)", BEYOND, desk.way(door, door, 0));
            is("way(" + door + ", " + door + ", 9)", BEYOND, desk.way(door, door, 9));
        }
        desk.shift(0, 0, 10, 1);
        desk.shift(0, 10, 20, 1);
        is("there is none at one DOOR", 1, desk.dressers());
    }

    private static void wayBeyondWay() {
        sentence("15: BEYOND: way isn't as told");
        WingDesk desk = new WingDesk();
        is("601", BEYOND, desk.way(0, 1, 601));
        for (int way : FAR) {
            is("way " + way, BEYOND, desk.way(0, 1, way));
        }
        is("600", 0, desk.way(0, 1, 600));
        is("0", 600, desk.way(0, 1, 0));
    }

    // ---- promise 16

    private static void fits() {
        fitsOrNot();
        fitsBeyond();
    }

    private static void fitsOrNot() {
        sentence("16: 1 a SHIFT FITS, 0 it doesn't");
        WingDesk desk = deskWith(10, 111);
        wearAll(desk, 0, 0);
        desk.shift(0, 0, 1, 0);
        desk.shift(10, 0, 4, 0);
        desk.shift(10, 0, 5, 0);
        is("nothing to do", 1, desk.fits(0));
        is("5 in 4", 0, desk.fits(1));
        is("5 in 5", 1, desk.fits(2));
        wearAll(desk, 0, 0, 1);
        is("a WIG without HANDS", 0, desk.fits(2));
        is("0 is no finding", 0, desk.found(2));
    }

    private static void fitsBeyond() {
        sentence("16: BEYOND");
        WingDesk desk = new WingDesk();
        is("none yet", BEYOND, desk.fits(0));
        desk.shift(0, 0, 1, 0);
        is("the first", 1, desk.fits(0));
        is("no second", BEYOND, desk.fits(1));
        is("12", BEYOND, desk.fits(12));
        for (int s : FAR) {
            is("fits(" + s + ")", BEYOND, desk.fits(s));
        }
        desk.less();
        is("it went", BEYOND, desk.fits(0));
    }

    // ---- promise 17

    private static void dressers() {
        sentence("17: THE FEWEST DRESSERS");
        WingDesk desk = new WingDesk();
        is("no SHIFTS", 0, desk.dressers());
        for (int s = 0; s < 12; s++) {
            desk.shift(s % 6, 0, 20000, 3);
        }
        is("all at once", 36, desk.dressers());
        is("asked again", 36, desk.dressers());
        for (int s = 0; s < 11; s++) {
            desk.less();
        }
        is("one SHIFT", 3, desk.dressers());
        desk.less();
        is("none any more", 0, desk.dressers());
    }

    // ---- promise 18

    private static void worn() {
        wornBeyond();
        wornState();
    }

    private static void wornBeyond() {
        sentence("18: BEYOND");
        WingDesk desk = deskWith(10, 10);
        is("worn(2)", BEYOND, desk.worn(2));
        is("worn(32)", BEYOND, desk.worn(32));
        for (int p : FAR) {
            is("worn(" + p + ")", BEYOND, desk.worn(p));
        }
        is("worn(1)", 1, desk.worn(1));
        is("worn(0)", 1, desk.worn(0));
    }

    private static void wornState() {
        sentence("18: A PIECE on the RAIL is WORN: 1. STATE");
        WingDesk desk = deskWith(10);
        is("on the RAIL", 1, desk.worn(0));
        is("WORN", STATE, desk.worn(0));
        desk.wash(0);
        is("in the WASH", STATE, desk.worn(0));
        desk.hours(1);
        is("in its last HOUR in the WASH", STATE, desk.worn(0));
        desk.hours(1);
        is("WET", STATE, desk.worn(0));
        desk.hours(1);
        is("on the RAIL again", 1, desk.worn(0));
    }

    // ---- promise 19

    private static void wash() {
        washHour();
        washBeyond();
        washState();
        washFull();
    }

    private static void washHour() {
        sentence("19: A WORN PIECE comes into the WASH: the HOUR in which it is on the RAIL");
        for (int thick = 1; thick <= 5; thick++) {
            WingDesk desk = deskWith(10 * thick);
            desk.worn(0);
            desk.hours(10);
            is("THICK " + thick, 12 + thick, desk.wash(0));
            is("THICK " + thick + ": not yet", 0, desk.hours(2 + thick - 1));
            is("THICK " + thick + ": in that HOUR", 1, desk.hours(1));
            is("THICK " + thick + ": the HOUR", 12 + thick, desk.count(2));
        }
    }

    private static void washBeyond() {
        sentence("19: BEYOND");
        WingDesk desk = deskWith(10, 10);
        desk.worn(0);
        desk.worn(1);
        is("wash(2)", BEYOND, desk.wash(2));
        is("wash(32)", BEYOND, desk.wash(32));
        for (int p : FAR) {
            is("wash(" + p + ")", BEYOND, desk.wash(p));
        }
        is("wash(1)", 3, desk.wash(1));
        is("wash(0)", 3, desk.wash(0));
    }

    private static void washState() {
        sentence("19: STATE: it isn't WORN");
        WingDesk desk = deskWith(10);
        is("on the RAIL", STATE, desk.wash(0));
        desk.worn(0);
        is("WORN", 3, desk.wash(0));
        is("in the WASH", STATE, desk.wash(0));
        desk.hours(2);
        is("WET", STATE, desk.wash(0));
        desk.hours(1);
        is("on the RAIL again", STATE, desk.wash(0));
    }

    private static void washFull() {
        sentence("19: FULL");
        WingDesk desk = deskWithMany(7, 10);
        for (int p = 0; p < 7; p++) {
            desk.worn(p);
        }
        for (int p = 0; p < 5; p++) {
            desk.wash(p);
        }
        is("a sixth", 3, desk.wash(5));
        is("a seventh", FULL, desk.wash(6));
        is("it is WORN still", 1, desk.about(6, 8));
        is("count(4)", 6, desk.count(4));
        desk.hours(2);
        is("there is room again", 5, desk.wash(6));
    }

    // ---- promise 20

    private static void hours() {
        hoursHowMany();
        hoursAtOnce();
        hoursBeyond();
        hoursFull();
    }

    private static void hoursHowMany() {
        sentence("20: n HOURS go by: how many PIECES came to the RAIL");
        WingDesk desk = deskWith(10, 20, 20, 50);
        for (int p = 0; p < 4; p++) {
            desk.worn(p);
            desk.wash(p);
        }
        int[] due = {0, 0, 1, 2, 0, 0, 1, 0};
        for (int hour = 0; hour < due.length; hour++) {
            is("up to HOUR " + (hour + 1), due[hour], desk.hours(1));
        }
        is("count(2)", due.length, desk.count(2));
    }

    private static void hoursAtOnce() {
        sentence("20: n HOURS go by (through the WASH and WET at once)");
        WingDesk desk = deskWith(10, 50, 10, 10);
        for (int p = 0; p < 3; p++) {
            desk.worn(p);
        }
        desk.wash(0);
        desk.wash(1);
        is("all of the WASH, none of WORN", 2, desk.hours(100));
        is("on the RAIL", 0, desk.about(1, 8));
        is("WORN", 1, desk.about(2, 8));
        is("none come twice", 0, desk.hours(100));
    }

    private static void hoursBeyond() {
        sentence("20: BEYOND: n isn't 1 .. 100");
        WingDesk desk = new WingDesk();
        is("hours(0)", BEYOND, desk.hours(0));
        is("hours(101)", BEYOND, desk.hours(101));
        for (int n : FAR) {
            is("hours(" + n + ")", BEYOND, desk.hours(n));
        }
        is("none went by", 0, desk.count(2));
        is("hours(1)", 0, desk.hours(1));
        is("hours(100)", 0, desk.hours(100));
        is("all went by", 101, desk.count(2));
    }

    /** 512 calls can't make 100000 HOURS, and what later ones answer is free: so it must never be told. */
    private static void hoursFull() {
        sentence("20: FULL: HOURS would be above 100000 (none of 512 calls can reach it)");
        WingDesk desk = new WingDesk();
        for (int i = 0; i < 510; i++) {
            is("up to HOUR " + 100 * (i + 1), 0, desk.hours(100));
        }
        is("count(2)", 51000, desk.count(2));
        is("found(4)", 0, desk.found(4));
    }

    // ---- promise 21

    private static void tonight() {
        tonightBeyondLook();
        tonightBeyondSize();
    }

    private static void tonightBeyondLook() {
        sentence("21: BEYOND (the LOOK)");
        WingDesk desk = deskWith(10);
        desk.wear(0, 0);
        desk.wear(11, 0);
        is("tonight(12, 40)", BEYOND, desk.tonight(12, 40));
        for (int look : FAR) {
            is("tonight(" + look + ", 40)", BEYOND, desk.tonight(look, 40));
        }
        is("tonight(0, 41)", 10, desk.tonight(0, 41));
        is("tonight(11, 41)", 10, desk.tonight(11, 41));
    }

    private static void tonightBeyondSize() {
        sentence("21: BEYOND (the SIZE)");
        WingDesk desk = deskWith(10);
        desk.wear(0, 0);
        is("tonight(0, 29)", BEYOND, desk.tonight(0, 29));
        is("tonight(0, 67)", BEYOND, desk.tonight(0, 67));
        for (int size : FAR) {
            is("tonight(0, " + size + ")", BEYOND, desk.tonight(0, size));
        }
        is("tonight(0, 30)", 100, desk.tonight(0, 30));
        is("tonight(0, 66)", 260, desk.tonight(0, 66));
    }

    // ---- promise 22

    private static void tell() {
        tellHowMany();
        tellFull();
    }

    private static void tellHowMany() {
        sentence("22: One more number waits: how many (any number)");
        WingDesk desk = new WingDesk();
        is("tell(LEAST)", 1, desk.tell(LEAST));
        is("tell(MOST)", 2, desk.tell(MOST));
        is("tell(0)", 3, desk.tell(0));
        is("tell(-1)", 4, desk.tell(-1));
        is("tell(BEYOND)", 5, desk.tell(BEYOND));
        is("count(3)", 5, desk.count(3));
    }

    private static void tellFull() {
        sentence("22: FULL: 30 wait");
        WingDesk desk = deskWith(10);
        desk.wear(1, 0);
        for (int i = 0; i < 29; i++) {
            desk.tell(i % 2 == 0 ? 0 : off(0));
        }
        is("a 30th", 30, desk.tell(off(0)));
        is("a 31st", FULL, desk.tell(0));
        is("30 wait", 30, desk.count(3));
        is("on and off fifteen times, and no more", 0, desk.check(0, 2, 0));
        is("there is room again", 1, desk.tell(0));
    }

    // ---- promise 23

    private static void check() {
        checkDone();
        checkNoneWait();
        checkFirstThatCannot();
        checkCannotComeOff();
        checkLiesOver();
        checkCannotBePutOn();
        checkIsNone();
        checkNotJustB();
        checkOrderOfB();
        checkBeyond();
        checkState();
    }

    /** Handlings from LOOK 0 to LOOK 1 with nothing BENEATH. */
    private static int checked(WingDesk desk, int... handlings) {
        tellAll(desk, handlings);
        return desk.check(0, 1, 0);
    }

    private static void checkDone() {
        sentence("23: 0 if each can be done and b is worn then");
        WingDesk desk = deskWith(10, 10, 110);
        wearAll(desk, 0, 0);
        wearAll(desk, 1, 1, 2);
        is("off, on, on", 0, checked(desk, off(0), 1, 2));
        is("on, off, on", 0, checked(desk, 2, off(0), 1));
        is("one goes on and off again", 0, checked(desk, off(0), 0, off(0), 1, 2));
        is("none are needed", 0, desk.check(0, 0, 0));
        is("none are needed for nothing", 0, desk.check(10, 11, 0));
    }

    private static void checkNoneWait() {
        sentence("23: The numbers that wait (none do then)");
        WingDesk desk = deskWith(10, 10);
        wearAll(desk, 1, 0);
        is("done", 0, checked(desk, 0));
        is("none wait", 0, desk.count(3));
        is("the first can't be done", 1, checked(desk, 2, 0));
        is("none wait then, either", 0, desk.count(3));
        is("not just b", 99, checked(desk, 0, 1));
        is("none wait at 99, either", 0, desk.count(3));
        is("none of those are done again", 99, desk.check(0, 1, 0));
    }

    private static void checkFirstThatCannot() {
        sentence("23: 1 and i for the first (from 0 on) that can't");
        WingDesk desk = deskWith(10, 10);
        wearAll(desk, 1, 0);
        is("the first of all", 1, checked(desk, 9, 0, 9));
        is("the second", 2, checked(desk, 0, 9, 9));
        int[] thirty = new int[30];
        for (int i = 0; i < 29; i++) {
            thirty[i] = i % 2 == 0 ? 0 : off(0);
        }
        thirty[29] = 0;
        is("the 30th", 30, checked(desk, thirty));
    }

    private static void checkCannotComeOff() {
        sentence("23: a PIECE that isn't worn can't come off");
        WingDesk desk = deskWith(10, 10);
        wearAll(desk, 0, 0);
        is("one that isn't worn", 1, checked(desk, off(1)));
        is("one that came off", 2, checked(desk, off(0), off(0)));
        is("one that is put on only then", 1, checked(desk, off(1), 1));
        is("none: as many as there are", 1, checked(desk, off(2)));
        is("none: 32", 1, checked(desk, off(32)));
        is("none: as far as can be told", 1, checked(desk, LEAST));
    }

    private static void checkLiesOver() {
        sentence("23: a PIECE over which another one LIES can't come off");
        WingDesk desk = deskWith(10, 10, 110);
        wearAll(desk, 0, 0, 1, 2);
        is("under another one", 1, checked(desk, off(0)));
        is("under one of another PLACE", 0, checked(desk, off(1), off(0), off(2)));
        is("one that is put on lies over it", 3, checked(desk, off(1), 1, off(0)));
        wearAll(desk, 1, 1, 2);
        is("over it, at its PLACE", 99, checked(desk, off(1), off(0)));
    }

    private static void checkCannotBePutOn() {
        sentence("23: one that is worn already can't be put on");
        WingDesk desk = deskWith(10, 110);
        wearAll(desk, 0, 0);
        wearAll(desk, 1, 0, 1);
        is("one of a", 1, checked(desk, 0));
        is("one that was put on", 2, checked(desk, 1, 1));
        is("one that came off", 0, checked(desk, off(0), 0, 1));
        tellAll(desk, 1);
        is("one that is BENEATH", 1, desk.check(0, 1, 2));
    }

    private static void checkIsNone() {
        sentence("23: one that is none can't be put on");
        WingDesk desk = deskWithMany(31, 10);
        is("the last one", 99, checked(desk, 30));
        is("none: as many as there are", 1, checked(desk, 31));
        desk.piece(10, 101, 300);
        is("it is one now", 99, checked(desk, 31));
        is("none: 32", 1, checked(desk, 32));
        is("none: as far as can be told", 1, checked(desk, MOST));
    }

    private static void checkNotJustB() {
        sentence("23: 99 if not just b's PIECES are worn then");
        WingDesk desk = deskWith(10, 110, 210);
        wearAll(desk, 0, 0);
        wearAll(desk, 1, 1);
        is("none are told", 99, desk.check(0, 1, 0));
        is("one of a too many", 99, checked(desk, 1));
        is("one of b too few", 99, checked(desk, off(0)));
        is("one of neither too many", 99, checked(desk, off(0), 1, 2));
        is("one of neither instead", 99, checked(desk, off(0), 2));
        is("just b's", 0, checked(desk, off(0), 1));
    }

    private static void checkOrderOfB() {
        sentence("23: 99 if not just b's PIECES are worn then, at each PLACE in the order of b");
        WingDesk desk = deskWith(10, 10, 110, 10);
        wearAll(desk, 1, 0, 2, 1, 3);
        is("in the order of b", 0, checked(desk, 0, 2, 1, 3));
        is("another order of two PLACES", 0, checked(desk, 0, 1, 3, 2));
        is("the last two of one PLACE", 99, checked(desk, 0, 2, 3, 1));
        is("the first two of one PLACE", 99, checked(desk, 1, 2, 0, 3));
        wearAll(desk, 0, 1, 0);
        wearAll(desk, 1, 0, 1);
        is("both are worn from the start, the other way round", 99, checked(desk));
    }

    private static void checkBeyond() {
        sentence("23: BEYOND: as of allowed()");
        WingDesk desk = deskForChange();
        desk.tell(off(0));
        is("a 12", BEYOND, desk.check(12, 1, 0));
        is("b 12", BEYOND, desk.check(0, 12, 0));
        is("a fourth bit", BEYOND, desk.check(0, 1, 8));
        is("all bits", BEYOND, desk.check(0, 1, -1));
        for (int look : FAR) {
            is("a " + look, BEYOND, desk.check(look, 1, 0));
            is("b " + look, BEYOND, desk.check(0, look, 0));
        }
        is("it waits on", 1, desk.count(3));
        is("and is done", 0, desk.check(0, 11, 0));
    }

    private static void checkState() {
        sentence("23: STATE: it isn't ALLOWED (they are gone, too)");
        WingDesk desk = deskForChange();
        tellAll(desk, 0, 1, 2);
        is("one that is in a", STATE, desk.check(0, 1, 2));
        is("they are gone", 0, desk.count(3));
        is("none are done", 0, desk.check(0, 0, 0));
        is("none wait, and it isn't ALLOWED", STATE, desk.check(0, 1, 2));
        is("found(3)", 2, desk.found(3));
        is("the next one that is told is the first", 1, desk.tell(0));
    }

    // ---- promise 24

    private static void count() {
        countEach();
        countBeyond();
    }

    private static void countEach() {
        sentence("24: 0 PIECES, 1 SHIFTS, 2 the HOUR, 3 numbers that wait, 4 PIECES in the WASH, 5 LIMIT (at most)");
        WingDesk desk = deskWithMany(32, 10);
        for (int i = 0; i < 30; i++) {
            desk.shift(0, 0, 1, 0);
            desk.tell(i);
            desk.worn(i);
            desk.wash(i);
        }
        desk.tell(30);
        desk.limit(30);
        int[] due = {32, 12, 0, 30, 6, 30};
        for (int what = 0; what < due.length; what++) {
            is("count(" + what + ")", due[what], desk.count(what));
        }
        desk.hours(1);
        is("still in the WASH", 6, desk.count(4));
        desk.hours(1);
        is("WET ones aren't in the WASH", 0, desk.count(4));
        is("the HOUR", 2, desk.count(2));
    }

    private static void countBeyond() {
        sentence("24: BEYOND: another what");
        WingDesk desk = new WingDesk();
        is("count(6)", BEYOND, desk.count(6));
        for (int what : FAR) {
            is("count(" + what + ")", BEYOND, desk.count(what));
        }
        is("found(1)", 1 + FAR.length, desk.found(1));
    }

    // ---- promise 25

    private static void found() {
        foundEach();
        foundBeyond();
    }

    private static void foundEach() {
        sentence("25: How many acts have answered a finding LOW - k (k 1 .. 5)");
        WingDesk desk = deskWithMany(32, 10);
        for (int k = 1; k <= 5; k++) {
            is("at first: found(" + k + ")", 0, desk.found(k));
        }
        desk.limit(0);
        for (int i = 0; i < 2; i++) {
            desk.less();
        }
        for (int i = 0; i < 3; i++) {
            desk.wash(0);
        }
        for (int i = 0; i < 4; i++) {
            desk.piece(10, 101, 300);
        }
        for (int i = 0; i < 5; i++) {
            desk.as(0, 1);
        }
        for (int k = 1; k <= 5; k++) {
            is("found(" + k + ")", k, desk.found(k));
        }
    }

    private static void foundBeyond() {
        sentence("25: BEYOND: another k (counted, too)");
        WingDesk desk = new WingDesk();
        is("found(0)", BEYOND, desk.found(0));
        is("found(6)", BEYOND, desk.found(6));
        is("both are counted", 2, desk.found(1));
        for (int k : FAR) {
            is("found(" + k + ")", BEYOND, desk.found(k));
        }
        is("all are counted", 2 + FAR.length, desk.found(1));
        is("found(5) is one", 0, desk.found(5));
    }
}
