import java.util.ArrayList;
import java.util.HashSet;
import java.util.List;
import java.util.Set;

/**
 * The document told once more, as slowly and plainly as it reads, with other means
 * than the program's: so that a slip in one of the two shows.
 */
final class PlainModel {
    private static final int LOW = -1000000;

    private static final class Garment {
        int kind, place, thick, on, off, name, size, span, where, until;

        boolean fits(int s) {
            return s >= size && s <= size + span;
        }

        int away(int s) {
            return s < size ? size - s : s > size + span ? s - size - span : 0;
        }
    }

    private record Turn(int a, int b, int door, int from, int up, int hands) { }

    private final List<Garment> pieces = new ArrayList<>();
    private final List<List<Integer>> looks = new ArrayList<>();
    private final List<Turn> shifts = new ArrayList<>();
    private final List<Integer> waiting = new ArrayList<>();
    private final int[][] ways = new int[6][6];
    private final int[] found = new int[6];
    private int limit = 8;
    private int hour;

    PlainModel() {
        for (int i = 0; i < 12; i++) {
            looks.add(new ArrayList<>());
        }
    }

    private int finding(int k) {
        found[k]++;
        return LOW - k;
    }

    private static boolean in(int v, int least, int most) {
        return least <= v && v <= most;
    }

    private boolean isPiece(int p) {
        return in(p, 0, pieces.size() - 1);
    }

    int piece(int how, int seconds, int size) {
        Garment g = new Garment();
        boolean told = false;
        // the numbers are tried out instead of taken apart
        for (g.name = 0; g.name <= 15 && !told; g.name += told ? 0 : 1) {
            for (int rest = 0; rest < 600 && !told; rest++) {
                g.place = rest / 100;
                g.thick = rest / 10 % 10;
                g.kind = rest % 10;
                told = g.thick >= 1 && g.thick <= 5 && g.kind <= 2 && 1000 * g.name + rest == how;
            }
        }
        boolean timed = false;
        for (int on = 1; on <= 60; on++) {
            for (int off = 1; off <= (g.kind == 2 ? 1 : 60); off++) {
                if (100 * on + off == seconds) {
                    timed = true;
                    g.on = on;
                    g.off = off;
                }
            }
        }
        boolean sized = false;
        for (int s = 30; s <= 60; s++) {
            for (int span = 0; span <= 6; span++) {
                if (10 * s + span == size) {
                    sized = true;
                    g.size = s;
                    g.span = span;
                }
            }
        }
        if (!told || !timed || !sized) {
            return finding(1);
        }
        if (pieces.size() == 32) {
            return finding(4);
        }
        pieces.add(g);
        return pieces.size() - 1;
    }

    int as(int p, int kind) {
        if (!isPiece(p) || !in(kind, 0, 2)) {
            return finding(1);
        }
        boolean is = kind == 0 || pieces.get(p).kind == kind;
        return is ? pieces.get(p).place : finding(5);
    }

    int about(int p, int what) {
        if (!isPiece(p) || !in(what, 0, 9)) {
            return finding(1);
        }
        Garment g = pieces.get(p);
        return new int[] {g.kind, g.place, g.thick, g.on, g.off, g.name, g.size, g.span, g.where,
            g.where < 2 ? 0 : g.until}[what];
    }

    int wear(int look, int p) {
        if (!in(look, 0, 11) || !isPiece(p)) {
            return finding(1);
        }
        List<Integer> row = looks.get(look);
        if (row.contains(p)) {
            return finding(3);
        }
        if (row.size() == 8) {
            return finding(4);
        }
        row.add(p);
        return row.size();
    }

    int bare(int look) {
        if (!in(look, 0, 11)) {
            return finding(1);
        }
        int had = looks.get(look).size();
        looks.set(look, new ArrayList<>());
        return had;
    }

    int look(int look, int i) {
        if (!in(look, 0, 11)) {
            return finding(1);
        }
        return in(i, 0, looks.get(look).size() - 1) ? looks.get(look).get(i) : finding(2);
    }

    /** No call: whether there is a PIECE i of a LOOK. */
    boolean has(int look, int i) {
        return i < looks.get(look).size();
    }

    int limit(int v) {
        if (!in(v, 1, 30)) {
            return finding(1);
        }
        int was = limit;
        limit = v;
        return was;
    }

    private boolean isChange(int a, int b, int beneath) {
        return in(a, 0, 11) && in(b, 0, 11) && in(beneath, 0, (1 << looks.get(b).size()) - 1);
    }

    private static Set<Integer> chosen(List<Integer> row, int bits) {
        Set<Integer> set = new HashSet<>();
        for (int i = 0; i < row.size(); i++) {
            if ((bits & 1 << i) != 0) {
                set.add(row.get(i));
            }
        }
        return set;
    }

    private static int bits(List<Integer> row, Set<Integer> set) {
        int bits = 0;
        for (int i = 0; i < row.size(); i++) {
            bits += set.contains(row.get(i)) ? 1 << i : 0;
        }
        return bits;
    }

    private int place(int p) {
        return pieces.get(p).place;
    }

    private boolean isAllowed(List<Integer> a, List<Integer> b, Set<Integer> beneath) {
        for (int x : beneath) {
            if (a.contains(x)) {
                return false;
            }
            for (int y : b) {
                boolean ahead = b.indexOf(y) < b.indexOf(x);
                boolean same = y != x && place(y) == place(x);
                if (same && ahead && !beneath.contains(y)) {
                    return false;
                }
                if (same && a.contains(y) && ahead) {
                    return false;
                }
            }
        }
        for (int place = 0; place < 6; place++) {
            int thick = 0;
            boolean some = false;
            for (int p = 0; p < pieces.size(); p++) {
                if (place(p) == place && (a.contains(p) || beneath.contains(p))) {
                    thick += pieces.get(p).thick;
                    some |= beneath.contains(p);
                }
            }
            if (some && thick > limit) {
                return false;
            }
        }
        return true;
    }

    /** One that can be added, or -1. */
    private int oneMoreOff(List<Integer> a, List<Integer> b, Set<Integer> beneath, Set<Integer> off) {
        for (int x : a) {
            if (off.contains(x)) {
                continue;
            }
            if (!b.contains(x)) {
                return x;
            }
            for (int y : a) {
                if (place(y) == place(x) && a.indexOf(x) > a.indexOf(y) && off.contains(y)) {
                    return x;
                }
            }
            for (int y : b) {
                boolean isntWorn = !beneath.contains(y) && (!a.contains(y) || off.contains(y));
                if (place(y) == place(x) && b.indexOf(x) > b.indexOf(y) && isntWorn) {
                    return x;
                }
            }
            for (int y : a) {
                boolean bothStay = y != x && !off.contains(y) && b.contains(y) && place(y) == place(x);
                boolean laterInA = a.indexOf(x) > a.indexOf(y);
                boolean laterInB = b.indexOf(x) > b.indexOf(y);
                if (bothStay && laterInA && !laterInB) {
                    return x;
                }
            }
        }
        return -1;
    }

    private Set<Integer> off(List<Integer> a, List<Integer> b, Set<Integer> beneath) {
        Set<Integer> off = new HashSet<>();
        for (int x = oneMoreOff(a, b, beneath, off); x >= 0; x = oneMoreOff(a, b, beneath, off)) {
            off.add(x);
        }
        return off;
    }

    private static Set<Integer> on(List<Integer> a, List<Integer> b, Set<Integer> beneath, Set<Integer> off) {
        Set<Integer> on = new HashSet<>(b);
        on.removeIf(x -> beneath.contains(x) || a.contains(x) && !off.contains(x));
        return on;
    }

    /** -1 is never. */
    private int time(List<Integer> a, List<Integer> b, Set<Integer> beneath, int hands) {
        Set<Integer> off = off(a, b, beneath);
        Set<Integer> on = on(a, b, beneath, off);
        List<Integer> each = new ArrayList<>();
        boolean wig = false;
        for (int x : off) {
            each.add(pieces.get(x).off);
            wig |= pieces.get(x).kind == 1;
        }
        for (int x : on) {
            each.add(pieces.get(x).on);
            wig |= pieces.get(x).kind == 1;
        }
        if (wig && hands == 0) {
            return -1;
        }
        int sum = each.stream().mapToInt(x -> x).sum();
        int most = each.stream().mapToInt(x -> x).max().orElse(0);
        int shared = 0;
        while (shared * (hands + 1) < sum) {
            shared++;
        }
        return Math.max(shared, most);
    }

    /** No call: whether it is a CHANGE that is ALLOWED. */
    boolean allows(int a, int b, int beneath) {
        return isChange(a, b, beneath) && isAllowed(looks.get(a), looks.get(b), chosen(looks.get(b), beneath));
    }

    int allowed(int a, int b, int beneath) {
        if (!isChange(a, b, beneath)) {
            return finding(1);
        }
        return isAllowed(looks.get(a), looks.get(b), chosen(looks.get(b), beneath)) ? 1 : 0;
    }

    int told(int a, int b, int beneath, int what) {
        if (!isChange(a, b, beneath) || !in(what, 0, 3)) {
            return finding(1);
        }
        Set<Integer> lying = chosen(looks.get(b), beneath);
        if (!isAllowed(looks.get(a), looks.get(b), lying)) {
            return finding(3);
        }
        Set<Integer> off = off(looks.get(a), looks.get(b), lying);
        Set<Integer> on = on(looks.get(a), looks.get(b), lying, off);
        return new int[] {off.size(), on.size(), bits(looks.get(a), off), bits(looks.get(b), on)}[what];
    }

    int seconds(int a, int b, int beneath, int hands) {
        if (!isChange(a, b, beneath) || !in(hands, 0, 3)) {
            return finding(1);
        }
        Set<Integer> lying = chosen(looks.get(b), beneath);
        if (!isAllowed(looks.get(a), looks.get(b), lying)) {
            return finding(3);
        }
        int time = time(looks.get(a), looks.get(b), lying, hands);
        return time < 0 ? finding(2) : time;
    }

    /** Bits and seconds, or null if it's never done. */
    private int[] bestOf(List<Integer> a, List<Integer> b, int hands) {
        List<int[]> ways = new ArrayList<>();
        for (int bits = 0; bits < 1 << b.size(); bits++) {
            Set<Integer> lying = chosen(b, bits);
            int time = isAllowed(a, b, lying) ? time(a, b, lying, hands) : -1;
            if (time >= 0) {
                ways.add(new int[] {bits, time, lying.size()});
            }
        }
        ways.sort((x, y) -> x[1] != y[1] ? x[1] - y[1] : x[2] != y[2] ? x[2] - y[2] : x[0] - y[0]);
        return ways.isEmpty() ? null : ways.get(0);
    }

    int best(int a, int b, int hands, int what) {
        if (!isChange(a, b, 0) || !in(hands, 0, 3) || !in(what, 0, 1)) {
            return finding(1);
        }
        int[] best = bestOf(looks.get(a), looks.get(b), hands);
        return best == null ? finding(2) : best[what];
    }

    int shift(int how, int from, int up, int hands) {
        Turn told = null;
        for (int a = 0; a < 12; a++) {
            for (int b = 0; b < 12; b++) {
                for (int door = 0; door < 6; door++) {
                    if (1000 * a + 10 * b + door == how) {
                        told = new Turn(a, b, door, from, up, hands);
                    }
                }
            }
        }
        if (told == null || !in(from, 0, 20000) || !in(up, from + 1, 20000) || !in(hands, 0, 3)) {
            return finding(1);
        }
        if (shifts.size() == 12) {
            return finding(4);
        }
        shifts.add(told);
        return shifts.size() - 1;
    }

    int less() {
        if (shifts.isEmpty()) {
            return finding(2);
        }
        shifts.remove(shifts.size() - 1);
        return shifts.size();
    }

    int way(int a, int b, int way) {
        if (!in(a, 0, 5) || !in(b, 0, 5) || a == b || !in(way, 0, 600)) {
            return finding(1);
        }
        int was = ways[a][b];
        ways[a][b] = way;
        ways[b][a] = way;
        return was;
    }

    int fits(int s) {
        if (!in(s, 0, shifts.size() - 1)) {
            return finding(1);
        }
        Turn turn = shifts.get(s);
        int[] best = bestOf(looks.get(turn.a), looks.get(turn.b), turn.hands);
        return best != null && best[1] <= turn.up - turn.from ? 1 : 0;
    }

    private boolean mayGo(Turn s, Turn t) {
        return t.from >= s.up + ways[s.door][t.door];
    }

    /**
     * Over all sets of shifts from which dressers go on: the most that can go on
     * is the least, over these sets, of hands out of the set and of hands gone to.
     */
    int dressers() {
        int n = shifts.size();
        int all = shifts.stream().mapToInt(t -> t.hands).sum();
        int least = all;
        for (int set = 0; set < 1 << n; set++) {
            int cut = 0;
            for (int t = 0; t < n; t++) {
                boolean reached = false;
                for (int s = 0; s < n; s++) {
                    reached |= (set & 1 << s) != 0 && mayGo(shifts.get(s), shifts.get(t));
                }
                cut += (set & 1 << t) == 0 ? shifts.get(t).hands : 0;
                cut += reached ? shifts.get(t).hands : 0;
            }
            least = Math.min(least, cut);
        }
        return all - least;
    }

    /** Tries out every dresser for every hand, in the order of the shifts' times. */
    int dressersTriedOut() {
        List<Turn> hands = new ArrayList<>();
        for (Turn t : shifts) {
            for (int h = 0; h < t.hands; h++) {
                hands.add(t);
            }
        }
        hands.sort((x, y) -> x.from - y.from);
        return triedOut(hands, 0, new ArrayList<>(), hands.size());
    }

    private int triedOut(List<Turn> hands, int i, List<Turn> lastOfEach, int best) {
        if (lastOfEach.size() >= best) {
            return best;
        }
        if (i == hands.size()) {
            return lastOfEach.size();
        }
        int least = best;
        for (int d = 0; d < lastOfEach.size(); d++) {
            Turn last = lastOfEach.get(d);
            if (mayGo(last, hands.get(i))) {
                lastOfEach.set(d, hands.get(i));
                least = Math.min(least, triedOut(hands, i + 1, lastOfEach, least));
                lastOfEach.set(d, last);
            }
        }
        lastOfEach.add(hands.get(i));
        least = Math.min(least, triedOut(hands, i + 1, lastOfEach, least));
        lastOfEach.remove(lastOfEach.size() - 1);
        return least;
    }

    int handsInAll() {
        return shifts.stream().mapToInt(t -> t.hands).sum();
    }

    int worn(int p) {
        if (!isPiece(p)) {
            return finding(1);
        }
        if (pieces.get(p).where != 0) {
            return finding(3);
        }
        pieces.get(p).where = 1;
        return 1;
    }

    private int inWash() {
        return (int) pieces.stream().filter(g -> g.where == 2).count();
    }

    int wash(int p) {
        if (!isPiece(p)) {
            return finding(1);
        }
        Garment g = pieces.get(p);
        if (g.where != 1) {
            return finding(3);
        }
        if (inWash() == 6) {
            return finding(4);
        }
        g.where = 2;
        g.until = hour + 2;
        return g.until + g.thick;
    }

    int hours(int n) {
        if (!in(n, 1, 100)) {
            return finding(1);
        }
        if (hour + n > 100000) {
            return finding(4);
        }
        int came = 0;
        for (int i = 0; i < n; i++) {
            hour++;
            for (Garment g : pieces) {
                if (g.where == 3 && g.until == hour) {
                    g.where = 0;
                    came++;
                } else if (g.where == 2 && g.until == hour) {
                    g.where = 3;
                    g.until = hour + g.thick;
                }
            }
        }
        return came;
    }

    int tonight(int look, int size) {
        if (!in(look, 0, 11) || !in(size, 30, 66)) {
            return finding(1);
        }
        return leastTonight(looks.get(look), 0, size, new HashSet<>());
    }

    private int leastTonight(List<Integer> row, int i, int size, Set<Integer> taken) {
        if (i == row.size()) {
            return 0;
        }
        Garment g = pieces.get(row.get(i));
        if (g.fits(size)) {
            return leastTonight(row, i + 1, size, taken);
        }
        int least = 10 * g.away(size) + leastTonight(row, i + 1, size, taken);
        for (int q = 0; q < pieces.size(); q++) {
            Garment other = pieces.get(q);
            int piece = q;
            if (other.name == g.name && other.place == g.place && other.fits(size) && other.where == 0
                    && looks.stream().noneMatch(l -> l.contains(piece)) && taken.add(q)) {
                least = Math.min(least, 1 + leastTonight(row, i + 1, size, taken));
                taken.remove(q);
            }
        }
        return least;
    }

    int tell(int v) {
        if (waiting.size() == 30) {
            return finding(4);
        }
        waiting.add(v);
        return waiting.size();
    }

    int check(int a, int b, int beneath) {
        if (!isChange(a, b, beneath)) {
            return finding(1);
        }
        List<Integer> handlings = new ArrayList<>(waiting);
        waiting.clear();
        List<Integer> want = looks.get(b);
        Set<Integer> lying = chosen(want, beneath);
        if (!isAllowed(looks.get(a), want, lying)) {
            return finding(3);
        }
        List<Integer> on = new ArrayList<>();
        for (int x : want) {
            if (lying.contains(x)) {
                on.add(x);
            }
        }
        on.addAll(looks.get(a));
        for (int i = 0; i < handlings.size(); i++) {
            int v = handlings.get(i);
            if (v >= 0) {
                if (!isPiece(v) || on.contains(v)) {
                    return 1 + i;
                }
                on.add(v);
            } else {
                int at = on.indexOf(-1 - v);
                if (at < 0) {
                    return 1 + i;
                }
                for (int k = at + 1; k < on.size(); k++) {
                    if (place(on.get(k)) == place(on.get(at))) {
                        return 1 + i;
                    }
                }
                on.remove(at);
            }
        }
        for (int place = 0; place < 6; place++) {
            int here = place;
            List<Integer> is = on.stream().filter(x -> place(x) == here).toList();
            if (!is.equals(want.stream().filter(x -> place(x) == here).toList())) {
                return 99;
            }
        }
        return 0;
    }

    /** Handlings that do a change: all that is off from the top down, then all that is on. */
    List<Integer> handlings(int a, int b, int beneath) {
        Set<Integer> lying = chosen(looks.get(b), beneath);
        Set<Integer> off = off(looks.get(a), looks.get(b), lying);
        Set<Integer> on = on(looks.get(a), looks.get(b), lying, off);
        List<Integer> told = new ArrayList<>();
        for (int i = looks.get(a).size() - 1; i >= 0; i--) {
            int x = looks.get(a).get(i);
            if (off.contains(x)) {
                told.add(-1 - x);
            }
        }
        for (int x : looks.get(b)) {
            if (on.contains(x)) {
                told.add(x);
            }
        }
        return told;
    }

    int count(int what) {
        if (!in(what, 0, 5)) {
            return finding(1);
        }
        return new int[] {pieces.size(), shifts.size(), hour, waiting.size(), inWash(), limit}[what];
    }

    int found(int k) {
        return in(k, 1, 5) ? found[k] : finding(1);
    }
}
