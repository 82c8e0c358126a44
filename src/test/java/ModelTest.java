import java.util.Random;

/** Runs of random calls on the program and on the plain model: both must always answer alike. */
public final class ModelTest {
    private static final int RUNS = 8000;
    /** No more are promised of one object. */
    private static final int CALLS = 512;
    /** One step of a run makes some calls more before it ends. */
    private static final int CALLS_OF_A_STEP = 100;
    private static final int MOST_HANDS_TRIED_OUT = 9;

    private final Due due;
    private final Random random;
    private final WingDesk desk = new WingDesk();
    private final PlainModel model = new PlainModel();
    private final int run;
    private final int looks;
    private final int places;
    private final int names;
    private int calls;

    private ModelTest(Due due, int run) {
        this.due = due;
        this.run = run;
        random = new Random(run);
        looks = 2 + random.nextInt(random.nextBoolean() ? 3 : 10);
        places = 1 + random.nextInt(6);
        names = 1 + random.nextInt(random.nextBoolean() ? 2 : 16);
    }

    public static void main(String[] args) {
        Due due = new Due();
        for (int run = 0; run < RUNS; run++) {
            ModelTest test = new ModelTest(due, run);
            test.begin();
            while (test.calls < CALLS - CALLS_OF_A_STEP) {
                test.step();
            }
        }
        due.end("ModelTest");
    }

    private void is(String call, int want, int got) {
        calls++;
        due.is("run " + run + ": " + call, want, got);
    }

    /** Mostly 0 .. n - 1, seldom something beyond. */
    private int to(int n) {
        if (random.nextInt(60) != 0) {
            return random.nextInt(n);
        }
        int[] odd = {-1, n, n + 1, -n, Integer.MAX_VALUE, Integer.MIN_VALUE, 100, random.nextInt()};
        return odd[random.nextInt(odd.length)];
    }

    private int look() {
        return to(random.nextInt(20) == 0 ? 12 : looks);
    }

    private int aPiece() {
        int n = model.count(0);
        return to(n == 0 ? 1 : n);
    }

    private int beneath(int b) {
        int size = b < 0 || b > 11 ? 0 : sizeOf(b);
        int bits = random.nextInt(1 << size);
        if (random.nextInt(3) == 0) {
            bits &= random.nextInt(1 << size);
        }
        return random.nextInt(40) == 0 ? to(1 << size) : bits;
    }

    private int sizeOf(int look) {
        int size = 0;
        while (size < 8 && model.has(look, size)) {
            size++;
        }
        return size;
    }

    private void begin() {
        int pieces = 2 + random.nextInt(30);
        for (int i = 0; i < pieces; i++) {
            piece();
        }
        int worn = random.nextInt(60);
        for (int i = 0; i < worn; i++) {
            wearOrBare();
        }
        if (random.nextInt(12) == 0) {
            fullShow();
        }
    }

    /** As many shifts as there may be, close to one another, in any order, with ways that part them. */
    private void fullShow() {
        int doors = 1 + random.nextInt(6);
        int span = 20 + random.nextInt(200);
        for (int i = 0; i < 12; i++) {
            way(random.nextInt(doors), random.nextInt(6), random.nextInt(span));
            int from = random.nextInt(span);
            shift(random.nextInt(doors), from, from + 1 + random.nextInt(20), random.nextInt(4));
            dressers();
        }
    }

    private void way(int a, int b, int way) {
        is("way(" + a + ", " + b + ", " + way + ")", model.way(a, b, way), desk.way(a, b, way));
    }

    private void shift(int how, int from, int up, int hands) {
        is("shift(" + how + ", " + from + ", " + up + ", " + hands + ")",
            model.shift(how, from, up, hands), desk.shift(how, from, up, hands));
    }

    private void dressers() {
        int got = desk.dressers();
        is("dressers()", model.dressers(), got);
        if (model.handsInAll() <= MOST_HANDS_TRIED_OUT) {
            is("dressers() tried out", model.dressersTriedOut(), got);
        }
    }

    private void step() {
        int n = random.nextInt(100);
        if (n < 4) {
            piece();
        } else if (n < 30) {
            wearOrBare();
        } else if (n < 58) {
            change();
        } else if (n < 72) {
            show();
        } else if (n < 84) {
            wash();
        } else if (n < 88) {
            int l = look();
            int size = random.nextInt(50) == 0 ? to(70) : 30 + random.nextInt(37);
            is("tonight(" + l + ", " + size + ")", model.tonight(l, size), desk.tonight(l, size));
        } else {
            told();
        }
    }

    private void piece() {
        int kind = random.nextInt(3);
        int how = 1000 * to(names) + 100 * to(places) + 10 * (1 + to(5)) + kind;
        int off = kind == 2 && random.nextInt(20) != 0 ? 1 : 1 + to(60);
        int seconds = 100 * (1 + to(60)) + off;
        int size = 10 * (30 + to(31)) + to(7);
        is("piece(" + how + ", " + seconds + ", " + size + ")",
            model.piece(how, seconds, size), desk.piece(how, seconds, size));
        if (random.nextBoolean()) {
            return;
        }
        int p = aPiece();
        int what = to(10);
        is("about(" + p + ", " + what + ")", model.about(p, what), desk.about(p, what));
        int as = to(3);
        is("as(" + p + ", " + as + ")", model.as(p, as), desk.as(p, as));
    }

    private void wearOrBare() {
        int l = look();
        if (random.nextInt(14) == 0) {
            is("bare(" + l + ")", model.bare(l), desk.bare(l));
            return;
        }
        int p = aPiece();
        is("wear(" + l + ", " + p + ")", model.wear(l, p), desk.wear(l, p));
        if (random.nextBoolean()) {
            return;
        }
        int i = to(8);
        is("look(" + l + ", " + i + ")", model.look(l, i), desk.look(l, i));
    }

    private void change() {
        int a = look();
        int b = look();
        int hands = to(4);
        int beneath = beneath(b);
        String change = "(" + a + ", " + b + ", " + beneath;
        switch (random.nextInt(6)) {
            case 0:
                int v = random.nextInt(3) == 0 ? 8 : 1 + to(30);
                is("limit(" + v + ")", model.limit(v), desk.limit(v));
                break;
            case 1:
                is("allowed" + change + ")", model.allowed(a, b, beneath), desk.allowed(a, b, beneath));
                break;
            case 2:
                for (int what = 0; what < 4; what++) {
                    is("told" + change + ", " + what + ")",
                        model.told(a, b, beneath, what), desk.told(a, b, beneath, what));
                }
                int what = to(4);
                is("told" + change + ", " + what + ")",
                    model.told(a, b, beneath, what), desk.told(a, b, beneath, what));
                break;
            case 3:
                is("seconds" + change + ", " + hands + ")",
                    model.seconds(a, b, beneath, hands), desk.seconds(a, b, beneath, hands));
                break;
            case 4:
                int of = to(2);
                is("best(" + a + ", " + b + ", " + hands + ", " + of + ")",
                    model.best(a, b, hands, of), desk.best(a, b, hands, of));
                break;
            default:
                checked(a, b, beneath);
        }
    }

    private void checked(int a, int b, int beneath) {
        if (random.nextInt(3) == 0 || !model.allows(a, b, beneath)) {
            is("check(" + a + ", " + b + ", " + beneath + ")",
                model.check(a, b, beneath), desk.check(a, b, beneath));
            return;
        }
        is("check", model.check(a, b, beneath), desk.check(a, b, beneath));
        boolean whole = random.nextInt(4) != 0;
        for (int v : model.handlings(a, b, beneath)) {
            if (whole || random.nextInt(8) != 0) {
                is("tell(" + v + ")", model.tell(v), desk.tell(v));
            }
        }
        int got = desk.check(a, b, beneath);
        is("check(" + a + ", " + b + ", " + beneath + ") of handlings", model.check(a, b, beneath), got);
        if (whole) {
            is("check(" + a + ", " + b + ", " + beneath + ") of all handlings", 0, got);
        }
    }

    private void show() {
        switch (random.nextInt(5)) {
            case 0:
                int how = 1000 * to(looks) + 10 * to(looks) + to(6);
                int from = to(random.nextBoolean() ? 200 : 20001);
                int up = from + 1 + to(random.nextBoolean() ? 40 : 400);
                shift(how, from, up, to(4));
                break;
            case 1:
                if (random.nextInt(3) == 0) {
                    is("less()", model.less(), desk.less());
                }
                break;
            case 2:
                way(to(6), to(6), to(random.nextBoolean() ? 60 : 601));
                break;
            case 3:
                int s = to(Math.max(1, model.count(1)));
                is("fits(" + s + ")", model.fits(s), desk.fits(s));
                break;
            default:
                dressers();
        }
    }

    private void wash() {
        int p = aPiece();
        switch (random.nextInt(4)) {
            case 0:
                is("worn(" + p + ")", model.worn(p), desk.worn(p));
                break;
            case 1:
                for (int q = 0; q < model.count(0); q++) {
                    if (model.about(q, 8) == 1 && random.nextBoolean()) {
                        is("wash(" + q + ")", model.wash(q), desk.wash(q));
                    }
                }
                break;
            case 2:
                is("wash(" + p + ")", model.wash(p), desk.wash(p));
                break;
            default:
                int n = random.nextInt(3) == 0 ? to(101) : 1 + to(3);
                is("hours(" + n + ")", model.hours(n), desk.hours(n));
                for (int q = 0; q < model.count(0); q++) {
                    is("about(" + q + ", 8)", model.about(q, 8), desk.about(q, 8));
                    is("about(" + q + ", 9)", model.about(q, 9), desk.about(q, 9));
                }
        }
    }

    private void told() {
        int n = random.nextInt(4);
        if (n == 0) {
            int what = to(6);
            is("count(" + what + ")", model.count(what), desk.count(what));
        } else if (n == 1) {
            int k = 1 + to(5);
            is("found(" + k + ")", model.found(k), desk.found(k));
        } else {
            int p = aPiece();
            int v = random.nextBoolean() ? p : -1 - p;
            is("tell(" + v + ")", model.tell(v), desk.tell(v));
        }
    }
}
