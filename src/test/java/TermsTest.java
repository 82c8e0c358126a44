/** 'Terms': each sentence that names a boundary case, with a test of its own on desks of its own. */
public final class TermsTest extends Wings {
    public static void main(String[] args) {
        calls();
        findings();
        pieces();
        looks();
        allowed();
        off();
        seconds();
        best();
        shifts();
        dressers();
        wash();
        tonight();
        DUE.end("TermsTest");
    }

    // ---- what it is

    private static void calls() {
        lastPromisedCall();
    }

    private static void lastPromisedCall() {
        sentence("An object is used for at most 512 calls after it has been made");
        WingDesk desk = new WingDesk();
        for (int i = 0; i < 511; i++) {
            desk.less();
        }
        is("the 512th call: found(2)", 511, desk.found(2));
    }

    // ---- findings

    private static void findings() {
        findingsHaveNumbers();
        orderOfPiecesAndLooks();
        orderOfChanges();
        orderOfTheRest();
    }

    private static void findingsHaveNumbers() {
        sentence("LOW is -1000000; LOW - 1 BEYOND, LOW - 2 NONE, LOW - 3 STATE, LOW - 4 FULL, LOW - 5 KIND");
        WingDesk desk = deskWithMany(32, 10);
        is("BEYOND", -1000001, desk.limit(0));
        is("NONE", -1000002, desk.less());
        is("STATE", -1000003, desk.wash(0));
        is("FULL", -1000004, desk.piece(10, 101, 300));
        is("KIND", -1000005, desk.as(0, 1));
    }

    private static void orderOfPiecesAndLooks() {
        sentence("Each act tells its findings in the order in which they are asked (pieces and looks)");
        WingDesk desk = deskWithMany(32, 10);
        is("piece: BEYOND ahead of FULL", BEYOND, desk.piece(0, 101, 300));
        is("piece: FULL", FULL, desk.piece(10, 101, 300));
        is("as: BEYOND ahead of KIND", BEYOND, desk.as(0, 3));
        wearAll(desk, 0, 0, 1, 2, 3, 4, 5, 6, 7);
        is("wear: BEYOND ahead of FULL", BEYOND, desk.wear(0, 32));
        is("wear: BEYOND ahead of STATE", BEYOND, desk.wear(12, 0));
        is("wear: STATE ahead of FULL", STATE, desk.wear(0, 7));
        is("wear: FULL", FULL, desk.wear(0, 8));
        is("look: BEYOND ahead of NONE", BEYOND, desk.look(12, 8));
    }

    private static void orderOfChanges() {
        sentence("Each act tells its findings in the order in which they are asked (changes)");
        WingDesk desk = deskWith(10, 11);
        wearAll(desk, 0, 0);
        wearAll(desk, 1, 0, 1);
        is("told: BEYOND ahead of STATE", BEYOND, desk.told(0, 1, 2, 4));
        is("told: STATE", STATE, desk.told(0, 1, 2, 3));
        is("seconds: BEYOND ahead of STATE", BEYOND, desk.seconds(0, 1, 2, 4));
        is("seconds: BEYOND ahead of NONE", BEYOND, desk.seconds(0, 1, 4, 0));
        is("seconds: STATE ahead of NONE", STATE, desk.seconds(0, 1, 1, 0));
        is("seconds: NONE", NONE, desk.seconds(0, 1, 0, 0));
        is("best: BEYOND ahead of NONE", BEYOND, desk.best(0, 1, 0, 2));
        is("best: NONE", NONE, desk.best(0, 1, 0, 1));
        is("check: BEYOND ahead of STATE", BEYOND, desk.check(0, 1, 4 + 1));
        is("check: STATE", STATE, desk.check(0, 1, 1));
    }

    private static void orderOfTheRest() {
        sentence("Each act tells its findings in the order in which they are asked (the show, the wash)");
        WingDesk desk = deskWithMany(8, 10);
        for (int s = 0; s < 12; s++) {
            desk.shift(0, 0, 1, 0);
        }
        is("shift: BEYOND ahead of FULL", BEYOND, desk.shift(6, 0, 1, 0));
        is("shift: FULL", FULL, desk.shift(5, 0, 1, 0));
        for (int p = 0; p < 6; p++) {
            desk.worn(p);
            desk.wash(p);
        }
        is("wash: BEYOND ahead of FULL", BEYOND, desk.wash(8));
        is("wash: STATE ahead of FULL", STATE, desk.wash(7));
        desk.worn(7);
        is("wash: FULL", FULL, desk.wash(7));
    }

    // ---- 1: pieces

    private static void pieces() {
        piecesAtMost();
        kinds();
        places();
        thick();
        on();
        off60();
        tearOff();
        names();
        sizes();
        spans();
        fitsSizes();
    }

    private static void piecesAtMost() {
        sentence("PIECES 0, 1, .. (at most 32)");
        WingDesk desk = new WingDesk();
        for (int p = 0; p < 32; p++) {
            is("piece " + p, p, desk.piece(10, 101, 300));
        }
        is("a 33rd", FULL, desk.piece(10, 101, 300));
        is("the last one", 1, desk.about(31, 2));
        is("there is no 33rd", BEYOND, desk.about(32, 2));
    }

    /** A new desk's answer to a PIECE of this how. */
    private static int pieceOf(int how) {
        return new WingDesk().piece(how, 101, 300);
    }

    private static int pieceTaking(int seconds) {
        return new WingDesk().piece(10, seconds, 300);
    }

    private static int pieceSized(int size) {
        return new WingDesk().piece(10, 101, size);
    }

    private static void kinds() {
        sentence("PIECES are of KINDS: 0 PIECE, 1 WIG under PIECE, 2 TEAR under PIECE");
        is("KIND 0", 0, pieceOf(10));
        is("KIND 1", 0, pieceOf(11));
        is("KIND 2", 0, pieceOf(12));
        is("KIND 3", BEYOND, pieceOf(13));
        is("KIND 9", BEYOND, pieceOf(19));
        is("KIND -1", BEYOND, pieceOf(50 - 1));
    }

    private static void places() {
        sentence("each has a PLACE (0 .. 5)");
        is("PLACE 0", 0, pieceOf(10));
        is("PLACE 5", 0, pieceOf(510));
        is("PLACE 6", BEYOND, pieceOf(610));
        is("PLACE 9", BEYOND, pieceOf(910));
        is("PLACE -1 of NAME 1", BEYOND, pieceOf(1000 - 100 + 10));
        is("PLACE -1 of NAME 0", BEYOND, pieceOf(-100 + 10));
    }

    private static void thick() {
        sentence("is THICK (1 .. 5)");
        is("THICK 1", 0, pieceOf(10));
        is("THICK 5", 0, pieceOf(50));
        is("THICK 0", BEYOND, pieceOf(0));
        is("THICK 0 of a TEAR at PLACE 5", BEYOND, pieceOf(502));
        is("THICK 6", BEYOND, pieceOf(60));
        is("THICK 9", BEYOND, pieceOf(90));
        is("THICK -1", BEYOND, pieceOf(-10));
    }

    private static void on() {
        sentence("takes ON seconds (1 .. 60)");
        is("ON 1", 0, pieceTaking(101));
        is("ON 60", 0, pieceTaking(6001));
        is("ON 0", BEYOND, pieceTaking(1));
        is("ON 61", BEYOND, pieceTaking(6101));
        is("ON -1", BEYOND, pieceTaking(-100 + 1));
    }

    private static void off60() {
        sentence("takes OFF seconds (1 .. 60)");
        is("OFF 1", 0, pieceTaking(101));
        is("OFF 60", 0, pieceTaking(160));
        is("OFF 0", BEYOND, pieceTaking(100));
        is("OFF 61", BEYOND, pieceTaking(161));
        is("OFF 99", BEYOND, pieceTaking(199));
        is("a WIG's OFF 60", 0, new WingDesk().piece(11, 160, 300));
        is("a WIG's OFF 61", BEYOND, new WingDesk().piece(11, 161, 300));
    }

    private static void tearOff() {
        sentence("a TEAR comes OFF in 1");
        WingDesk desk = new WingDesk();
        is("OFF 0", BEYOND, desk.piece(12, 6000, 300));
        is("OFF 2", BEYOND, desk.piece(12, 6002, 300));
        is("OFF 60", BEYOND, desk.piece(12, 6060, 300));
        is("OFF 1", 0, desk.piece(12, 6001, 300));
        is("about it", 1, desk.about(0, 4));
        desk.wear(0, 0);
        is("it comes OFF in 1", 1, desk.seconds(0, 1, 0, 0));
    }

    private static void names() {
        sentence("has a NAME (0 .. 15)");
        is("NAME 0", 0, pieceOf(10));
        is("NAME 15", 0, pieceOf(15010));
        is("NAME 16", BEYOND, pieceOf(16010));
        is("NAME -1", BEYOND, pieceOf(-1000 + 10));
        is("the most NAME that fits an int", BEYOND, pieceOf(2147483 * 1000 + 10));
    }

    private static void sizes() {
        sentence("SIZE (30 .. 60)");
        is("SIZE 30", 0, pieceSized(300));
        is("SIZE 60", 0, pieceSized(600));
        is("SIZE 29", BEYOND, pieceSized(290));
        is("SIZE 29, SPAN 6", BEYOND, pieceSized(296));
        is("SIZE 61", BEYOND, pieceSized(610));
        is("SIZE -30", BEYOND, pieceSized(-300));
    }

    private static void spans() {
        sentence("SPAN (0 .. 6)");
        is("SPAN 0", 0, pieceSized(400));
        is("SPAN 6", 0, pieceSized(406));
        is("SPAN 7", BEYOND, pieceSized(407));
        is("SPAN 9", BEYOND, pieceSized(409));
        is("SPAN -1", BEYOND, pieceSized(400 - 1));
    }

    private static void fitsSizes() {
        sentence("fits sizes from SIZE to SIZE and SPAN");
        WingDesk desk = new WingDesk();
        desk.piece(10, 101, 403);
        desk.piece(10, 101, 300);
        desk.piece(10, 101, 606);
        wearAll(desk, 0, 0);
        wearAll(desk, 1, 1);
        wearAll(desk, 2, 2);
        is("below SIZE", 10, desk.tonight(0, 39));
        is("SIZE", 0, desk.tonight(0, 40));
        is("between them, nearer to SIZE", 0, desk.tonight(0, 41));
        is("between them, nearer to SIZE and SPAN", 0, desk.tonight(0, 42));
        is("SIZE and SPAN", 0, desk.tonight(0, 43));
        is("above SIZE and SPAN", 10, desk.tonight(0, 44));
        is("SPAN 0: SIZE", 0, desk.tonight(1, 30));
        is("SPAN 0: above SIZE", 10, desk.tonight(1, 31));
        is("in the middle of the most SPAN", 0, desk.tonight(2, 63));
        is("the most SIZE and SPAN", 0, desk.tonight(2, 66));
    }

    // ---- 1: looks

    private static void looks() {
        looksThereAre();
        looksNoneAtFirst();
        looksAtMost();
        looksNoneTwice();
        looksInOrder();
        liesOver();
        liesOverAtOnePlace();
    }

    private static void looksThereAre() {
        sentence("LOOKS 0 .. 11");
        WingDesk desk = deskWith(10);
        is("LOOK 0", 1, desk.wear(0, 0));
        is("LOOK 11", 1, desk.wear(11, 0));
        is("LOOK -1", BEYOND, desk.wear(-1, 0));
        is("LOOK 12", BEYOND, desk.wear(12, 0));
    }

    private static void looksNoneAtFirst() {
        sentence("LOOKS are rows of PIECES (none at first)");
        WingDesk desk = deskWith(10);
        for (int look = 0; look < LOOKS; look++) {
            is("look(" + look + ", 0)", NONE, desk.look(look, 0));
            is("bare(" + look + ")", 0, desk.bare(look));
        }
    }

    private static void looksAtMost() {
        sentence("LOOKS are rows of PIECES (at most 8)");
        WingDesk desk = deskWithMany(10, 10);
        for (int p = 0; p < 8; p++) {
            is("wear(5, " + p + ")", p + 1, desk.wear(5, p));
        }
        is("a ninth", FULL, desk.wear(5, 8));
        is("a tenth", FULL, desk.wear(5, 9));
        is("the eighth is in it", 7, desk.look(5, 7));
        is("no ninth is in it", NONE, desk.look(5, 8));
        is("the next LOOK has none of them", NONE, desk.look(6, 0));
        is("the next LOOK has room", 1, desk.wear(6, 8));
    }

    private static void looksNoneTwice() {
        sentence("no PIECE twice in one LOOK");
        WingDesk desk = deskWith(10, 10);
        desk.wear(0, 0);
        is("at once again", STATE, desk.wear(0, 0));
        desk.wear(0, 1);
        is("the first again", STATE, desk.wear(0, 0));
        is("in another one", 1, desk.wear(1, 0));
        desk.bare(0);
        is("once more when it is bare", 1, desk.wear(0, 0));
    }

    private static void looksInOrder() {
        sentence("LOOKS are rows of PIECES, in the order in which they are put on");
        WingDesk desk = deskWith(10, 10, 10);
        wearAll(desk, 0, 2, 0, 1);
        is("first", 2, desk.look(0, 0));
        is("second", 0, desk.look(0, 1));
        is("last", 1, desk.look(0, 2));
    }

    private static void liesOver() {
        sentence("Of two PIECES with one PLACE that are worn, the one put on later LIES OVER the other one");
        WingDesk desk = deskWith(10, 10);
        wearAll(desk, 0, 1, 0);
        tellAll(desk, off(1));
        is("the first can't come off", 1, desk.check(0, 1, 0));
        tellAll(desk, off(0), off(1));
        is("the later one can, then the first", 0, desk.check(0, 1, 0));
        tellAll(desk, off(0), off(1), 0, 1, off(0));
        is("put on anew it is the other way round", 5, desk.check(0, 1, 0));
    }

    private static void liesOverAtOnePlace() {
        sentence("Of two PIECES with one PLACE (with two PLACES none LIES OVER the other one)");
        WingDesk desk = deskWith(10, 110);
        wearAll(desk, 0, 0, 1);
        tellAll(desk, off(0), off(1));
        is("the first can come off first", 0, desk.check(0, 1, 0));
    }

    // ---- 2: what is allowed

    private static void allowed() {
        beneathFromTheStart();
        noneBeneathIsInA();
        allAheadAreBeneath();
        othersInAAreBehind();
        thickTogether();
        thickWithA();
        limits();
        limitAtFirst();
        limitOnlyWhereBeneath();
    }

    private static void beneathFromTheStart() {
        sentence("BENEATH: PIECES of b that are worn under all of a from the start, in the order of b");
        WingDesk desk = deskWith(10, 10, 10);
        wearAll(desk, 0, 0);
        wearAll(desk, 1, 2, 1);
        tellAll(desk, off(0));
        is("from the start", 0, desk.check(0, 1, 3));
        tellAll(desk, off(1));
        is("under all of a", 1, desk.check(0, 1, 3));
        tellAll(desk, off(0), off(2));
        is("the first of b is under the second one", 2, desk.check(0, 1, 3));
        tellAll(desk, off(0), off(1), off(2), 2, 1);
        is("the second one comes off first", 0, desk.check(0, 1, 3));
    }

    private static void noneBeneathIsInA() {
        sentence("ALLOWED: none of them is in a");
        WingDesk desk = deskWith(10, 110);
        wearAll(desk, 0, 0);
        wearAll(desk, 1, 0, 1);
        is("one that is in a", 0, desk.allowed(0, 1, 1));
        is("one that is in a, and another", 0, desk.allowed(0, 1, 3));
        is("another one", 1, desk.allowed(0, 1, 2));
        is("the same LOOK", 0, desk.allowed(1, 1, 2));
    }

    private static void allAheadAreBeneath() {
        sentence("ALLOWED: all PIECES of b with its PLACE that are ahead of it in b are BENEATH, too");
        WingDesk desk = deskWith(10, 110, 10, 10);
        wearAll(desk, 1, 0, 1, 2, 3);
        is("the first", 1, desk.allowed(0, 1, 0b0001));
        is("the second without the first", 0, desk.allowed(0, 1, 0b0100));
        is("both", 1, desk.allowed(0, 1, 0b0101));
        is("the third without the second", 0, desk.allowed(0, 1, 0b1001));
        is("the third without the first", 0, desk.allowed(0, 1, 0b1100));
        is("all three", 1, desk.allowed(0, 1, 0b1101));
        is("one of another PLACE", 1, desk.allowed(0, 1, 0b0010));
    }

    private static void othersInAAreBehind() {
        sentence("ALLOWED: all others of b with its PLACE that are in a, too, are behind it in b");
        WingDesk desk = deskWith(10, 10, 110);
        wearAll(desk, 0, 0);
        wearAll(desk, 1, 1, 0);
        wearAll(desk, 2, 0, 1);
        wearAll(desk, 3, 0, 2);
        is("behind", 1, desk.allowed(0, 1, 1));
        is("ahead", 0, desk.allowed(0, 2, 2));
        is("ahead at another PLACE", 1, desk.allowed(0, 3, 2));
    }

    private static void thickTogether() {
        sentence("ALLOWED: at each PLACE all that is BENEATH is THICK together LIMIT at most");
        WingDesk desk = deskWith(30, 50, 10, 130, 150, 110);
        wearAll(desk, 1, 0, 1, 2);
        is("3 and 5", 1, desk.allowed(0, 1, 3));
        is("3, 5 and 1", 0, desk.allowed(0, 1, 7));
        wearAll(desk, 1, 0, 1, 3, 4);
        is("8 at each of two PLACES", 1, desk.allowed(0, 1, 15));
        wearAll(desk, 1, 0, 1, 3, 4, 5);
        is("9 at the second PLACE", 0, desk.allowed(0, 1, 31));
        wearAll(desk, 1, 3, 4, 0, 1, 2);
        is("9 at the first PLACE", 0, desk.allowed(0, 1, 31));
    }

    private static void thickWithA() {
        sentence("ALLOWED: at each PLACE all that is BENEATH or in a is THICK together LIMIT at most");
        WingDesk desk = deskWith(30, 40, 10, 20, 150);
        wearAll(desk, 0, 0, 1, 4);
        wearAll(desk, 1, 2);
        wearAll(desk, 2, 3);
        wearAll(desk, 3, 2, 0);
        is("3, 4 and 1", 1, desk.allowed(0, 1, 1));
        is("3, 4 and 2", 0, desk.allowed(0, 2, 1));
        is("3, 4 and 1, with one of a that stays", 1, desk.allowed(0, 3, 1));
    }

    private static void limits() {
        sentence("LIMIT (1 .. 30)");
        WingDesk desk = deskWith(50, 50, 50, 50, 50, 50, 10, 110, 120);
        wearAll(desk, 0, 0, 1, 2, 3, 4);
        wearAll(desk, 1, 5, 6);
        is("LIMIT 0", BEYOND, desk.limit(0));
        is("LIMIT 31", BEYOND, desk.limit(31));
        is("LIMIT 30", 8, desk.limit(30));
        is("25 and 5", 1, desk.allowed(0, 1, 1));
        is("25, 5 and 1", 0, desk.allowed(0, 1, 3));
        is("LIMIT 1", 30, desk.limit(1));
        wearAll(desk, 1, 7);
        wearAll(desk, 2, 8);
        is("1", 1, desk.allowed(11, 1, 1));
        is("2", 0, desk.allowed(11, 2, 1));
    }

    private static void limitAtFirst() {
        sentence("LIMIT (8 at first)");
        WingDesk desk = deskWith(50, 30, 10);
        wearAll(desk, 1, 0, 1, 2);
        is("count(5)", 8, desk.count(5));
        is("8", 1, desk.allowed(0, 1, 3));
        is("9", 0, desk.allowed(0, 1, 7));
        is("what it was", 8, desk.limit(9));
        is("9 of 9", 1, desk.allowed(0, 1, 7));
    }

    private static void limitOnlyWhereBeneath() {
        sentence("LIMIT (only of PLACES where some are BENEATH)");
        WingDesk desk = deskWith(50, 50, 110);
        wearAll(desk, 0, 0, 1);
        wearAll(desk, 1, 2);
        is("10 where none are BENEATH, 1 where one is", 1, desk.allowed(0, 1, 1));
        is("none are BENEATH", 1, desk.allowed(0, 1, 0));
        desk.limit(1);
        is("none are BENEATH with the least LIMIT", 1, desk.allowed(0, 1, 0));
    }

    // ---- 2: what comes off, and goes on

    private static void off() {
        offNotInB();
        offLyingOver();
        offBehindOneNotWorn();
        offBehindOneBeneath();
        offByOrder();
        offAsLongAsOneCanBeAdded();
        onOnlyWhatIsNotWorn();
    }

    private static void isChanged(String what, WingDesk desk, int beneath, int off, int on) {
        is(what + ": OFF", off, desk.told(0, 1, beneath, 2));
        is(what + ": ON", on, desk.told(0, 1, beneath, 3));
    }

    private static void offNotInB() {
        sentence("OFF are PIECES of a that aren't in b");
        WingDesk desk = deskWith(10, 110, 210);
        wearAll(desk, 0, 0, 1, 2);
        wearAll(desk, 1, 0, 2);
        isChanged("one of three", desk, 0, 0b010, 0);
        desk.bare(1);
        isChanged("an empty b", desk, 0, 0b111, 0);
        wearAll(desk, 1, 0, 1, 2);
        isChanged("all are in b", desk, 0, 0, 0);
        desk.bare(0);
        isChanged("an empty a", desk, 0, 0, 0b111);
    }

    private static void offLyingOver() {
        sentence("OFF are PIECES of a that LIE OVER one that is OFF");
        WingDesk desk = deskWith(10, 10, 110);
        wearAll(desk, 0, 0, 1);
        wearAll(desk, 1, 1);
        isChanged("over it", desk, 0, 0b11, 0b1);
        wearAll(desk, 0, 1, 0);
        isChanged("under it", desk, 0, 0b10, 0);
        wearAll(desk, 0, 0, 2);
        wearAll(desk, 1, 2);
        isChanged("at another PLACE", desk, 0, 0b01, 0);
    }

    private static void offBehindOneNotWorn() {
        sentence("OFF are those that stay and are behind, in b, one with their PLACE that isn't worn");
        WingDesk desk = deskWith(10, 10, 110);
        wearAll(desk, 0, 0);
        wearAll(desk, 1, 1, 0);
        isChanged("behind", desk, 0, 0b1, 0b11);
        wearAll(desk, 1, 0, 1);
        isChanged("ahead", desk, 0, 0, 0b10);
        wearAll(desk, 1, 2, 0);
        isChanged("behind one of another PLACE", desk, 0, 0, 0b01);
    }

    private static void offBehindOneBeneath() {
        sentence("isn't worn (it is in b, not BENEATH, and not in a, or OFF)");
        WingDesk desk = deskWith(10, 10, 10);
        wearAll(desk, 0, 0);
        wearAll(desk, 1, 1, 2, 0);
        isChanged("behind two that are BENEATH", desk, 0b011, 0, 0);
        isChanged("behind one that isn't BENEATH", desk, 0b001, 0b1, 0b110);
        wearAll(desk, 0, 0, 1);
        wearAll(desk, 1, 0, 1);
        isChanged("behind one that is in a", desk, 0, 0, 0);
        wearAll(desk, 1, 1, 0);
        isChanged("behind one that is OFF", desk, 0, 0b11, 0b11);
    }

    private static void offByOrder() {
        sentence("OFF is, of two that stay, with one PLACE, whose order in a isn't that in b: the one later in a");
        WingDesk desk = deskWith(10, 10, 10, 110);
        wearAll(desk, 0, 0, 1, 2);
        wearAll(desk, 1, 0, 2, 1);
        isChanged("two of three", desk, 0, 0b110, 0b110);
        wearAll(desk, 1, 0, 1, 2);
        isChanged("the same order", desk, 0, 0, 0);
        wearAll(desk, 0, 0, 3);
        wearAll(desk, 1, 3, 0);
        isChanged("of two PLACES", desk, 0, 0, 0);
    }

    private static void offAsLongAsOneCanBeAdded() {
        sentence("OFF are, as long as one can be added");
        WingDesk desk = deskWithMany(9, 10);
        wearAll(desk, 0, 0, 1, 2);
        wearAll(desk, 1, 1, 8, 2, 0);
        isChanged("8 isn't worn, so 0 is OFF, so 1 that lies over it is OFF", desk, 0, 0b111, 0b1111);
        wearAll(desk, 0, 0, 1, 2, 3, 4, 5, 6, 7);
        wearAll(desk, 1, 7, 6, 5, 4, 3, 2, 1, 0);
        isChanged("eight the other way round", desk, 0, 255, 255);
        wearAll(desk, 1, 0, 2, 1, 4, 3, 6, 5, 7);
        isChanged("all but the lowest", desk, 0, 254, 254);
    }

    private static void onOnlyWhatIsNotWorn() {
        sentence("ON are PIECES of b that aren't BENEATH and aren't in a or are OFF");
        WingDesk desk = deskWith(10, 110, 210, 310, 310);
        wearAll(desk, 0, 0, 4, 3);
        wearAll(desk, 1, 0, 1, 2, 3);
        isChanged("one stays, one is BENEATH, one is new, one is OFF", desk, 0b0010, 0b110, 0b1100);
    }

    // ---- 2: seconds

    private static void seconds() {
        secondsHands();
        secondsRoundedUp();
        secondsOfASingleOne();
        secondsOfOffAndOn();
        secondsNever();
        secondsNeverOnlyOffOrOn();
    }

    private static void secondsHands() {
        sentence("SECONDS with h HANDS (0 .. 3)");
        WingDesk desk = deskWith(10);
        desk.wear(0, 0);
        is("HANDS 0", 5, desk.seconds(0, 1, 0, 0));
        is("HANDS 3", 5, desk.seconds(0, 1, 0, 3));
        is("HANDS -1", BEYOND, desk.seconds(0, 1, 0, -1));
        is("HANDS 4", BEYOND, desk.seconds(0, 1, 0, 4));
    }

    private static void secondsRoundedUp() {
        sentence("all seconds of those that are OFF and ON together, by (h and 1), rounded up");
        WingDesk desk = new WingDesk();
        int[] offs = {3, 3, 3, 3, 1};
        for (int p = 0; p < offs.length; p++) {
            desk.piece(100 * p + 10, 100 + offs[p], 400);
        }
        wearAll(desk, 0, 0, 1, 2, 3);
        wearAll(desk, 1, 0, 1, 2, 3, 4);
        int[] of12 = {12, 6, 4, 3};
        int[] of13 = {13, 7, 5, 4};
        for (int hands = 0; hands < 4; hands++) {
            is("12 with " + hands, of12[hands], desk.seconds(0, 2, 0, hands));
            is("13 with " + hands, of13[hands], desk.seconds(1, 2, 0, hands));
        }
        is("nothing to do", 0, desk.seconds(0, 0, 0, 0));
        is("nothing to do with many", 0, desk.seconds(0, 0, 0, 3));
    }

    private static void secondsOfASingleOne() {
        sentence("and the most that a single one of these takes (OFF, or ON)");
        WingDesk desk = new WingDesk();
        desk.piece(10, 2009, 400);
        desk.piece(110, 805, 400);
        wearAll(desk, 0, 0);
        wearAll(desk, 1, 1);
        is("17 by 2: 9", 9, desk.seconds(0, 1, 0, 1));
        is("17 by 3 is 6, OFF takes 9", 9, desk.seconds(0, 1, 0, 2));
        is("25 by 2 is 13, ON takes 20", 20, desk.seconds(1, 0, 0, 1));
        is("25 by 1", 25, desk.seconds(1, 0, 0, 0));
    }

    private static void secondsOfOffAndOn() {
        sentence("the most that a single one of these takes (OFF, or ON: not both together)");
        WingDesk desk = deskWith(10, 10);
        wearAll(desk, 0, 0);
        wearAll(desk, 1, 1, 0);
        is("5 and 10 and 10 by 4", 10, desk.seconds(0, 1, 0, 3));
        is("5 and 10 and 10 by 1", 25, desk.seconds(0, 1, 0, 0));
    }

    private static void secondsNever() {
        sentence("It is NEVER done if h is 0 and a WIG is OFF or ON");
        WingDesk desk = deskWith(11);
        desk.wear(0, 0);
        is("a WIG is OFF", NONE, desk.seconds(0, 1, 0, 0));
        is("a WIG is ON", NONE, desk.seconds(1, 0, 0, 0));
        is("a WIG is OFF, with a hand", 5, desk.seconds(0, 1, 0, 1));
        is("a WIG is ON, with a hand", 10, desk.seconds(1, 0, 0, 1));
    }

    private static void secondsNeverOnlyOffOrOn() {
        sentence("NEVER if a WIG is OFF or ON (not if it stays, or is BENEATH, or it is a TEAR)");
        WingDesk desk = deskWith(11, 112, 210);
        wearAll(desk, 0, 0, 1);
        wearAll(desk, 1, 0, 2);
        is("it stays", 11, desk.seconds(0, 1, 0, 0));
        wearAll(desk, 0, 1);
        is("it is BENEATH", 11, desk.seconds(0, 1, 1, 0));
        is("it is BENEATH, as is the other one", 1, desk.seconds(0, 1, 3, 0));
    }

    // ---- 2: best

    private static void best() {
        bestAsBits();
        bestOfAllowed();
        bestNeverIsMore();
        bestOfTheFewest();
        bestOfTheLeastNumber();
        bestOfNothing();
    }

    private static void isBest(String what, WingDesk desk, int hands, int bits, int seconds) {
        is(what + ": as bits", bits, desk.best(0, 1, hands, 0));
        is(what + ": its SECONDS", seconds, desk.best(0, 1, hands, 1));
    }

    private static void bestAsBits() {
        sentence("BEST: as bits: PIECE i of b's row is bit i");
        WingDesk desk = deskWith(10, 110, 210, 310, 410, 510, 10, 110);
        wearAll(desk, 1, 7, 6, 5, 4, 3, 2, 1, 0);
        isBest("all eight", desk, 0, 255, 0);
        wearAll(desk, 0, 2, 3, 4, 5, 6, 7, 1);
        isBest("the eighth alone isn't worn, and it is over another one", desk, 0, 0, 10);
        wearAll(desk, 0, 0, 1, 2, 3, 4, 5);
        isBest("the first two aren't worn", desk, 0, 3, 0);
    }

    private static void bestOfAllowed() {
        sentence("BEST: of what is ALLOWED to be BENEATH");
        WingDesk desk = deskWith(10, 10);
        wearAll(desk, 0, 0);
        wearAll(desk, 1, 1);
        desk.limit(2);
        isBest("2 of 2", desk, 0, 1, 5);
        desk.limit(1);
        isBest("2 of 1", desk, 0, 0, 15);
    }

    private static void bestNeverIsMore() {
        sentence("BEST: NEVER is more than all");
        WingDesk desk = new WingDesk();
        for (int p = 0; p < 6; p++) {
            desk.piece(100 * p + 10, 6060, 400);
        }
        desk.piece(11, 101, 400);
        desk.piece(10, 6060, 400);
        desk.piece(110, 6060, 400);
        wearAll(desk, 0, 0, 1, 2, 3, 4, 5, 7, 8);
        wearAll(desk, 1, 6);
        isBest("eight times 60 OFF, the WIG BENEATH", desk, 0, 1, 480);
        desk.limit(2);
        is("NEVER with any: as bits", NONE, desk.best(0, 1, 0, 0));
        is("NEVER with any: its SECONDS", NONE, desk.best(0, 1, 0, 1));
    }

    private static void bestOfTheFewest() {
        sentence("BEST: of several that with the fewest PIECES");
        WingDesk desk = new WingDesk();
        desk.piece(10, 160, 400);
        desk.piece(110, 1001, 400);
        desk.piece(210, 1001, 400);
        desk.piece(310, 1001, 400);
        desk.piece(410, 3030, 400);
        desk.piece(510, 3030, 400);
        wearAll(desk, 0, 0);
        wearAll(desk, 1, 1, 2, 3, 4, 5);
        isBest("60 and 90 by 2: one of 30, not three of 10", desk, 1, 8, 60);
        isBest("60 and 90 by 4: none", desk, 3, 0, 60);
    }

    private static void bestOfTheLeastNumber() {
        sentence("BEST: then the one that is less as a number");
        WingDesk desk = new WingDesk();
        desk.piece(10, 160, 400);
        for (int p = 1; p < 5; p++) {
            desk.piece(100 * p + 10, 3001, 400);
        }
        wearAll(desk, 0, 0);
        wearAll(desk, 1, 1, 2, 3);
        isBest("60 and 90 by 2: one of three", desk, 1, 1, 60);
        wearAll(desk, 1, 1, 2, 3, 4);
        isBest("60 and 120 by 2: two of four", desk, 1, 3, 60);
    }

    private static void bestOfNothing() {
        sentence("BEST of a, b, h (LOOKS without PIECES)");
        WingDesk desk = deskWith(10);
        isBest("neither has any", desk, 0, 0, 0);
        desk.wear(0, 0);
        isBest("b has none", desk, 0, 0, 5);
    }

    // ---- 3: shifts

    private static void shifts() {
        shiftsAtMost();
        shiftsOfLooks();
        shiftsAtDoors();
        shiftsFromUpTo();
        shiftsHands();
        shiftsFit();
        shiftsNeverFit();
    }

    private static void shiftsAtMost() {
        sentence("SHIFTS 0, 1, .. (at most 12)");
        WingDesk desk = new WingDesk();
        for (int s = 0; s < 12; s++) {
            is("SHIFT " + s, s, desk.shift(0, 0, 1, 3));
        }
        is("a 13th", FULL, desk.shift(0, 0, 1, 3));
        is("the 12th", 1, desk.fits(11));
        is("there is no 13th", BEYOND, desk.fits(12));
        is("all hands of 12", 36, desk.dressers());
    }

    private static int shiftOf(int how) {
        return new WingDesk().shift(how, 0, 1, 0);
    }

    private static void shiftsOfLooks() {
        sentence("SHIFTS: a CHANGE from a to b (LOOKS 0 .. 11)");
        is("a 0, b 0", 0, shiftOf(0));
        is("a 11", 0, shiftOf(11000));
        is("a 12", BEYOND, shiftOf(12000));
        is("a -1", BEYOND, shiftOf(-1000));
        is("b 11", 0, shiftOf(110));
        is("b 12", BEYOND, shiftOf(120));
        is("b 99", BEYOND, shiftOf(990));
        is("b -1", BEYOND, shiftOf(1000 - 10));
    }

    private static void shiftsAtDoors() {
        sentence("SHIFTS: at a DOOR (0 .. 5)");
        is("DOOR 0", 0, shiftOf(0));
        is("DOOR 5", 0, shiftOf(5));
        is("DOOR 6", BEYOND, shiftOf(6));
        is("DOOR 9", BEYOND, shiftOf(9));
        is("DOOR -1", BEYOND, shiftOf(-1));
        is("DOOR -1 of another b", BEYOND, shiftOf(10 - 1));
    }

    private static int shiftWithin(int from, int up) {
        return new WingDesk().shift(0, from, up, 0);
    }

    private static void shiftsFromUpTo() {
        sentence("SHIFTS: FROM a second UP TO a later one (0 .. 20000)");
        is("0 up to 1", 0, shiftWithin(0, 1));
        is("0 up to 20000", 0, shiftWithin(0, 20000));
        is("19999 up to 20000", 0, shiftWithin(19999, 20000));
        is("-1 up to 1", BEYOND, shiftWithin(-1, 1));
        is("0 up to 20001", BEYOND, shiftWithin(0, 20001));
        is("20000 up to 20001", BEYOND, shiftWithin(20000, 20001));
        is("20001 up to 20002", BEYOND, shiftWithin(20001, 20002));
        is("0 up to 0", BEYOND, shiftWithin(0, 0));
        is("20000 up to 20000", BEYOND, shiftWithin(20000, 20000));
        is("5 up to 4", BEYOND, shiftWithin(5, 4));
    }

    private static void shiftsHands() {
        sentence("SHIFTS: with HANDS (0 .. 3)");
        WingDesk desk = new WingDesk();
        is("HANDS -1", BEYOND, desk.shift(0, 0, 1, -1));
        is("HANDS 4", BEYOND, desk.shift(0, 0, 1, 4));
        is("HANDS 0", 0, desk.shift(0, 0, 1, 0));
        is("no DRESSER", 0, desk.dressers());
        is("HANDS 3", 1, desk.shift(0, 0, 1, 3));
        is("three DRESSERS", 3, desk.dressers());
    }

    private static void shiftsFit() {
        sentence("It FITS if SECONDS (with BEST) are not more than from FROM to UP TO");
        WingDesk desk = deskWith(10, 10);
        wearAll(desk, 0, 0);
        wearAll(desk, 1, 1);
        desk.shift(10, 1000, 1004, 0);
        desk.shift(10, 1000, 1005, 0);
        desk.shift(10, 1000, 1006, 0);
        desk.shift(1010, 0, 1, 0);
        is("one more", 0, desk.fits(0));
        is("just as many", 1, desk.fits(1));
        is("one less", 1, desk.fits(2));
        is("nothing to do in the least time", 1, desk.fits(3));
        desk.limit(1);
        is("15, as none can be BENEATH", 0, desk.fits(2));
    }

    private static void shiftsNeverFit() {
        sentence("It FITS if SECONDS are not more (NEVER is more than all)");
        WingDesk desk = deskWith(11);
        desk.wear(0, 0);
        desk.shift(10, 0, 20000, 0);
        desk.shift(10, 0, 20000, 1);
        is("NEVER", 0, desk.fits(0));
        is("with a hand", 1, desk.fits(1));
    }

    // ---- 3: dressers

    private static void dressers() {
        handsAreOneDressersEach();
        handsFromUpTo();
        mayGoOrLater();
        mayGoAtOneDoor();
        ways();
        wayAtFirst();
        wayBothWays();
        fewestOfNone();
        fewestInARow();
        fewestWhenTheNearestIsWrong();
        fewestWhenAllMustMoveOn();
        fewestAskedAgain();
    }

    private static void handsAreOneDressersEach() {
        sentence("Each of its HANDS is one DRESSER's");
        WingDesk desk = new WingDesk();
        desk.shift(0, 0, 10, 3);
        is("three HANDS", 3, desk.dressers());
        desk.shift(1, 10, 20, 2);
        is("two of the three go on", 3, desk.dressers());
        desk.shift(2, 10, 20, 2);
        is("one goes to the other, which wants one more", 4, desk.dressers());
    }

    private static void handsFromUpTo() {
        sentence("Each of its HANDS is one DRESSER's from FROM to UP TO");
        WingDesk desk = new WingDesk();
        desk.shift(0, 0, 20, 1);
        desk.shift(0, 19, 30, 1);
        is("one second together", 2, desk.dressers());
        desk.less();
        desk.shift(0, 5, 6, 1);
        is("one within the other", 2, desk.dressers());
        desk.less();
        desk.shift(0, 0, 20, 1);
        is("both at once", 2, desk.dressers());
        desk.less();
        desk.shift(0, 20, 30, 1);
        is("one behind the other", 1, desk.dressers());
    }

    private static void mayGoOrLater() {
        sentence("A DRESSER may go to another if FROM of that is UP TO of the first and the WAY, or later");
        WingDesk desk = new WingDesk();
        desk.way(0, 1, 7);
        desk.shift(0, 0, 10, 1);
        desk.shift(1, 16, 30, 1);
        is("one second too early", 2, desk.dressers());
        desk.less();
        desk.shift(1, 17, 30, 1);
        is("just in time", 1, desk.dressers());
        desk.less();
        desk.shift(1, 18, 30, 1);
        is("later", 1, desk.dressers());
        desk.less();
        desk.shift(1, 19999, 20000, 1);
        is("much later", 1, desk.dressers());
    }

    private static void mayGoAtOneDoor() {
        sentence("the WAY between their DOORS (none at one DOOR)");
        WingDesk desk = new WingDesk();
        for (int door = 1; door < DOORS; door++) {
            desk.way(0, door, 600);
            desk.way(5, door - 1, 600);
        }
        desk.shift(0, 0, 10, 1);
        desk.shift(0, 10, 20, 1);
        is("at DOOR 0", 1, desk.dressers());
        desk.shift(5, 0, 10, 1);
        desk.shift(5, 10, 20, 1);
        is("at DOOR 5, too", 2, desk.dressers());
    }

    private static void ways() {
        sentence("WAY between DOORS (0 .. 600)");
        WingDesk desk = new WingDesk();
        is("WAY 600", 0, desk.way(0, 1, 600));
        is("WAY 0", 600, desk.way(0, 1, 0));
        is("WAY -1", BEYOND, desk.way(0, 1, -1));
        is("WAY 601", BEYOND, desk.way(0, 1, 601));
        desk.way(0, 1, 600);
        desk.shift(0, 0, 1, 1);
        desk.shift(1, 600, 700, 1);
        is("599 are too few", 2, desk.dressers());
        desk.less();
        desk.shift(1, 601, 700, 1);
        is("600 are enough", 1, desk.dressers());
    }

    private static void wayAtFirst() {
        sentence("WAY between DOORS (0 at first)");
        WingDesk desk = new WingDesk();
        for (int a = 0; a < DOORS; a++) {
            desk.shift(a, 10 * a, 10 * a + 10, 1);
        }
        is("from DOOR to DOOR at once", 1, desk.dressers());
        for (int a = 0; a < DOORS; a++) {
            for (int b = a + 1; b < DOORS; b++) {
                is("way(" + a + ", " + b + ", 1)", 0, desk.way(a, b, 1));
            }
        }
        is("each must pass the next DOOR by", 2, desk.dressers());
    }

    private static void wayBothWays() {
        sentence("WAY between DOORS (the same both ways)");
        WingDesk desk = new WingDesk();
        desk.way(1, 4, 9);
        is("back", 9, desk.way(4, 1, 5));
        is("and forth", 5, desk.way(1, 4, 5));
        desk.shift(1, 0, 10, 1);
        desk.shift(4, 14, 20, 1);
        is("too far there", 2, desk.dressers());
        desk.less();
        desk.less();
        desk.shift(4, 0, 10, 1);
        desk.shift(1, 14, 20, 1);
        is("too far back", 2, desk.dressers());
    }

    private static void fewestOfNone() {
        sentence("THE FEWEST DRESSERS for all SHIFTS (none, and without HANDS)");
        WingDesk desk = new WingDesk();
        is("no SHIFTS", 0, desk.dressers());
        for (int s = 0; s < 12; s++) {
            desk.shift(0, s, s + 1, 0);
        }
        is("no HANDS", 0, desk.dressers());
    }

    private static void fewestInARow() {
        sentence("THE FEWEST DRESSERS for all SHIFTS (twelve in a row, told from the last to the first)");
        WingDesk desk = new WingDesk();
        for (int s = 11; s >= 0; s--) {
            desk.shift(s % 6, 10 * s, 10 * s + 10, 3);
        }
        is("three do it all", 3, desk.dressers());
        desk.less();
        desk.shift(0, 110, 120, 3);
        is("two at once", 6, desk.dressers());
    }

    private static void fewestWhenTheNearestIsWrong() {
        sentence("THE FEWEST DRESSERS (the first that may go on must leave it to another one)");
        WingDesk desk = new WingDesk();
        desk.way(1, 2, 100);
        desk.shift(0, 0, 10, 1);
        desk.shift(1, 0, 10, 1);
        desk.shift(3, 20, 30, 1);
        desk.shift(2, 20, 30, 1);
        is("0 goes to 2, 1 goes to 3", 2, desk.dressers());
        desk.way(1, 3, 100);
        is("1 goes to neither", 3, desk.dressers());
    }

    /** At each of DOORS 0 to 4 one goes on; a second one at DOOR 0 moves each of them a DOOR further. */
    private static void fewestWhenAllMustMoveOn() {
        sentence("THE FEWEST DRESSERS (each that goes on must leave it to another one, up to the last DOOR)");
        WingDesk desk = new WingDesk();
        for (int a = 0; a < DOORS; a++) {
            for (int b = a + 1; b < DOORS; b++) {
                desk.way(a, b, b == a + 1 ? 10 : 600);
            }
        }
        for (int door = 0; door < 5; door++) {
            desk.shift(door, 0, 10 + 10 * door, 2);
        }
        desk.shift(0, 0, 10, 2);
        for (int door = 0; door < 6; door++) {
            desk.shift(door, 10 + 10 * door, 1000, 2);
        }
        is("all twelve go on", 12, desk.dressers());
        desk.way(4, 5, 11);
        is("none go to the last DOOR", 14, desk.dressers());
    }

    /** First 0 goes to 3 and 1 to 4; then 0 goes to 4 or 5, 1 and 2 to 3 alone. */
    private static void fewestAskedAgain() {
        sentence("THE FEWEST DRESSERS (asked, changed, and asked again)");
        WingDesk desk = new WingDesk();
        for (int door = 0; door < 3; door++) {
            desk.shift(door, 0, 10, 1);
        }
        desk.shift(3, 20, 30, 1);
        desk.shift(4, 20, 30, 1);
        is("two of three go on", 3, desk.dressers());
        desk.shift(5, 20, 30, 1);
        is("three of three go on", 3, desk.dressers());
        desk.way(0, 3, 600);
        for (int door = 4; door < 6; door++) {
            desk.way(1, door, 600);
            desk.way(2, door, 600);
        }
        is("two of three go on again", 4, desk.dressers());
        is("asked once more", 4, desk.dressers());
    }

    // ---- 4: the wash

    private static void wash() {
        wherePiecesAre();
        inTheWashForTwoHours();
        wetForAsManyAsThick();
        washHoldsSix();
        hoursFromNought();
    }

    private static void wherePiecesAre() {
        sentence("A PIECE is 0 on the RAIL, 1 WORN, 2 in the WASH, 3 WET");
        WingDesk desk = deskWith(10);
        is("at first", 0, desk.about(0, 8));
        desk.worn(0);
        is("WORN", 1, desk.about(0, 8));
        desk.wash(0);
        is("in the WASH", 2, desk.about(0, 8));
        desk.hours(2);
        is("WET", 3, desk.about(0, 8));
        desk.hours(1);
        is("on the RAIL again", 0, desk.about(0, 8));
    }

    private static WingDesk deskWithOneInTheWash(int how) {
        WingDesk desk = deskWith(how);
        desk.worn(0);
        desk.wash(0);
        return desk;
    }

    private static void inTheWashForTwoHours() {
        sentence("It is in the WASH for 2 HOURS");
        WingDesk desk = deskWithOneInTheWash(50);
        desk.hours(1);
        is("after 1", 2, desk.about(0, 8));
        desk.hours(1);
        is("after 2", 3, desk.about(0, 8));
    }

    private static void wetForAsManyAsThick() {
        sentence("then WET for as many as it is THICK, then on the RAIL");
        for (int thick = 1; thick <= 5; thick++) {
            WingDesk desk = deskWithOneInTheWash(10 * thick);
            is("THICK " + thick + ": none come", 0, desk.hours(2 + thick - 1));
            is("THICK " + thick + ": WET in its last HOUR", 3, desk.about(0, 8));
            is("THICK " + thick + ": it comes", 1, desk.hours(1));
            is("THICK " + thick + ": on the RAIL", 0, desk.about(0, 8));
        }
    }

    private static void washHoldsSix() {
        sentence("THE WASH holds 6 PIECES at once");
        WingDesk desk = deskWithMany(7, 50);
        for (int p = 0; p < 7; p++) {
            desk.worn(p);
        }
        for (int p = 0; p < 6; p++) {
            is("wash(" + p + ")", 7, desk.wash(p));
        }
        is("a seventh", FULL, desk.wash(6));
        desk.hours(1);
        is("a seventh an HOUR later", FULL, desk.wash(6));
        desk.hours(1);
        is("the six are WET, not in it", 9, desk.wash(6));
    }

    private static void hoursFromNought() {
        sentence("HOURS go from 0 on");
        WingDesk desk = new WingDesk();
        is("at first", 0, desk.count(2));
        desk.hours(1);
        is("after 1", 1, desk.count(2));
    }

    // ---- 5: tonight

    private static void tonight() {
        tonightSizes();
        tonightSwapped();
        tonightOnTheRail();
        tonightInNoLook();
        tonightFirstAndLastPiece();
        tonightEachForOne();
        tonightAltered();
        tonightTheLeast();
        tonightOfNothing();
    }

    /** A desk whose LOOK 0 has a PIECE of NAME 1, PLACE 1, SIZE 40; and a PIECE more of this how and size. */
    private static WingDesk deskWithSpare(int how, int size) {
        WingDesk desk = new WingDesk();
        desk.piece(1110, 101, 400);
        desk.wear(0, 0);
        desk.piece(how, 101, size);
        return desk;
    }

    private static void tonightSizes() {
        sentence("TONIGHT a LOOK is worn by one of another SIZE (30 .. 66)");
        WingDesk desk = deskWith(10);
        desk.wear(0, 0);
        is("SIZE 30", 100, desk.tonight(0, 30));
        is("SIZE 66", 260, desk.tonight(0, 66));
        is("SIZE 29", BEYOND, desk.tonight(0, 29));
        is("SIZE 67", BEYOND, desk.tonight(0, 67));
    }

    private static void tonightSwapped() {
        sentence("each that doesn't fit is swapped for a PIECE of its NAME and PLACE that fits: 1");
        is("one that fits", 1, deskWithSpare(1110, 450).tonight(0, 45));
        is("of another NAME", 50, deskWithSpare(2110, 450).tonight(0, 45));
        is("of another PLACE", 50, deskWithSpare(1210, 450).tonight(0, 45));
        is("of another KIND and THICK", 1, deskWithSpare(1151, 450).tonight(0, 45));
        is("its SIZE is just above", 50, deskWithSpare(1110, 460).tonight(0, 45));
        is("its SIZE and SPAN are just as much", 1, deskWithSpare(1110, 396).tonight(0, 45));
        is("its SIZE and SPAN are just below", 50, deskWithSpare(1110, 395).tonight(0, 45));
        is("one that fits needs no swap", 0, deskWithSpare(1110, 400).tonight(0, 40));
    }

    private static void tonightOnTheRail() {
        sentence("swapped for a PIECE that is on the RAIL");
        WingDesk desk = deskWithSpare(1110, 450);
        desk.worn(1);
        is("WORN", 50, desk.tonight(0, 45));
        desk.wash(1);
        is("in the WASH", 50, desk.tonight(0, 45));
        desk.hours(2);
        is("WET", 50, desk.tonight(0, 45));
        desk.hours(1);
        is("on the RAIL", 1, desk.tonight(0, 45));
    }

    private static void tonightInNoLook() {
        sentence("swapped for a PIECE that is in no LOOK");
        WingDesk desk = deskWithSpare(1110, 450);
        for (int look = 0; look < LOOKS; look++) {
            desk.wear(look, 1);
            is("in LOOK " + look, 50, desk.tonight(0, 45));
            wearAll(desk, look, look == 0 ? new int[] {0} : new int[0]);
        }
        is("in none any more", 1, desk.tonight(0, 45));
        desk.wear(3, 1);
        desk.wear(4, 1);
        desk.bare(3);
        is("in one of two", 50, desk.tonight(0, 45));
    }

    private static void tonightFirstAndLastPiece() {
        sentence("swapped for a PIECE that is in no LOOK (the first and the last of 32)");
        WingDesk desk = new WingDesk();
        desk.piece(1110, 101, 450);
        desk.piece(1110, 101, 400);
        for (int p = 2; p < 31; p++) {
            desk.piece(2110, 101, 450);
        }
        desk.piece(1110, 101, 500);
        desk.wear(0, 1);
        is("the first", 1, desk.tonight(0, 45));
        desk.wear(1, 0);
        is("the first, in a LOOK", 50, desk.tonight(0, 45));
        desk.bare(1);
        is("the first, in none any more", 1, desk.tonight(0, 45));
        is("the last", 1, desk.tonight(0, 50));
        desk.wear(1, 31);
        is("the last, in a LOOK", 100, desk.tonight(0, 50));
        desk.bare(1);
        is("the last, in none any more", 1, desk.tonight(0, 50));
    }

    private static void tonightEachForOne() {
        sentence("swapped (each for one at most)");
        WingDesk desk = deskWithSpare(1110, 450);
        desk.piece(1110, 101, 400);
        desk.wear(0, 2);
        is("one for two", 51, desk.tonight(0, 45));
        desk.piece(1110, 101, 450);
        is("two for two", 2, desk.tonight(0, 45));
        desk.piece(1110, 101, 450);
        is("three for two", 2, desk.tonight(0, 45));
    }

    private static void tonightAltered() {
        sentence("or altered: 10 for each size that it is away");
        WingDesk desk = new WingDesk();
        desk.piece(10, 101, 406);
        desk.wear(0, 0);
        is("1 below", 10, desk.tonight(0, 39));
        is("2 below", 20, desk.tonight(0, 38));
        is("1 above", 10, desk.tonight(0, 47));
        is("2 above", 20, desk.tonight(0, 48));
        WingDesk far = deskWithMany(8, 10);
        wearAll(far, 0, 0, 1, 2, 3, 4, 5, 6, 7);
        is("eight that are 26 away", 2080, far.tonight(0, 66));
    }

    private static void tonightTheLeast() {
        sentence("The least of all ways");
        is("swapped, though it is 1 away alone", 1, deskWithSpare(1110, 410).tonight(0, 41));
        WingDesk desk = deskWithSpare(1110, 500);
        desk.piece(1110, 101, 380);
        desk.piece(1110, 101, 390);
        wearAll(desk, 0, 0, 2, 3);
        is("the one for the farthest, in the middle", 100 + 1 + 110, desk.tonight(0, 50));
        wearAll(desk, 0, 2, 3, 0);
        is("the one for the farthest, at the beginning", 100 + 1 + 110, desk.tonight(0, 50));
        wearAll(desk, 0, 0, 3, 2);
        is("the one for the farthest, at the end", 100 + 1 + 110, desk.tonight(0, 50));
    }

    private static void tonightOfNothing() {
        sentence("TONIGHT a LOOK (without PIECES)");
        WingDesk desk = deskWith(10);
        is("SIZE 30", 0, desk.tonight(0, 30));
        is("SIZE 66", 0, desk.tonight(11, 66));
    }
}
