import java.util.ArrayDeque;
import java.util.ArrayList;
import java.util.Arrays;
import java.util.Deque;
import java.util.HashMap;
import java.util.List;
import java.util.Map;
import java.util.NoSuchElementException;

/**
 * The document once more, in other ways than the program's: whole states are kept, FAULTS are found
 * sign by sign without recursion, LAWS are worked out from their texts, STEPS by a walk over LANES.
 */
final class Model {
    static final int NONE = -1;
    static final int HIDDEN = -1000000;

    /** All that an IMAGE keeps. */
    static final class State {
        int[] worth;
        int[] kind;
        int[] size;
        int at;
        int legs;
        int credit = 3;
        int coins;
        int loss;
        int hour;
        List<int[]> log = new ArrayList<>();

        State copy() {
            State s = new State();
            s.worth = worth.clone();
            s.kind = kind.clone();
            s.size = size.clone();
            s.at = at;
            s.legs = legs;
            s.credit = credit;
            s.coins = coins;
            s.loss = loss;
            s.hour = hour;
            s.log = new ArrayList<>(log);
            return s;
        }
    }

    String tape = "";
    final List<String> laws = new ArrayList<>();
    int held = NONE;
    int danger = 2;
    final int[] status = new int[5];
    int places;
    int legs;
    int sees;
    int coins;
    int[] worth;
    int[] odds;
    boolean[][] lane;
    State now;
    State image;
    final Deque<State> acts = new ArrayDeque<>();
    final List<int[]> seen = new ArrayList<>();

    int feed(int a, int b, int c, int d, int e) {
        StringBuilder more = new StringBuilder();
        for (int word : new int[] {a, b, c, d, e}) {
            for (int i = 3; i >= 0; i--) {
                int sign = (word >> (8 * i)) & 0xff;
                if (sign != 0) {
                    more.append((char) sign);
                }
            }
        }
        if (tape.length() + more.length() > 240) {
            return NONE;
        }
        tape = tape + more;
        return tape.length();
    }

    boolean end(int n) {
        if (n < 0 || n > tape.length()) {
            return false;
        }
        tape = tape.substring(0, n);
        return true;
    }

    int fault(int sort) {
        return sort == 0 ? TownText.fault(tape) : sort == 1 ? LawText.fault(tape) : -2;
    }

    int text(int sort) {
        if (sort < 0 || sort > 1 || fault(sort) != NONE || sort == 1 && laws.size() == 4) {
            return NONE;
        }
        String told = tape.replace(" ", "");
        tape = "";
        if (sort == 1) {
            laws.add(told);
            return laws.size() - 1;
        }
        build(told);
        return places;
    }

    private static int item(String clause, char letter, int usual) {
        int i = clause.indexOf(letter, 1);
        if (i < 0) {
            return usual;
        }
        int end = i + 1;
        while (end < clause.length() && Character.isDigit(clause.charAt(end))) {
            end++;
        }
        return Integer.parseInt(clause.substring(i + 1, end));
    }

    private void build(String told) {
        String rules = "s";
        List<String> ps = new ArrayList<>();
        List<String> ls = new ArrayList<>();
        for (String clause : told.split(";")) {
            if (clause.charAt(0) == 's') {
                rules = clause;
            } else {
                (clause.charAt(0) == 'p' ? ps : ls).add(clause);
            }
        }
        legs = item(rules, 'g', 2);
        sees = item(rules, 'e', 1);
        coins = item(rules, 'k', 20);
        places = ps.size();
        worth = new int[places];
        odds = new int[places];
        lane = new boolean[places][places];
        for (int p = 0; p < places; p++) {
            worth[p] = item(ps.get(p), 'w', 20);
            odds[p] = item(ps.get(p), 'o', 1);
        }
        for (String l : ls) {
            int a = item(l, 'a', 0);
            int b = item(l, 'b', 1);
            lane[a][b] = lane[b][a] = true;
        }
        now = told();
        image = null;
        acts.clear();
        seen.clear();
    }

    private State told() {
        State s = new State();
        s.worth = worth.clone();
        s.kind = new int[places];
        s.size = new int[places];
        s.legs = legs;
        s.coins = coins;
        return s;
    }

    private boolean has(int p) {
        return now != null && p >= 0 && p < places;
    }

    int steps(int from, int to) {
        if (!has(from) || !has(to)) {
            return NONE;
        }
        int[] far = new int[places];
        Arrays.fill(far, 99);
        far[from] = 0;
        Deque<Integer> open = new ArrayDeque<>(List.of(from));
        while (!open.isEmpty()) {
            int p = open.remove();
            for (int q = 0; q < places; q++) {
                if (lane[p][q] && far[q] == 99) {
                    far[q] = far[p] + 1;
                    open.add(q);
                }
            }
        }
        return far[to];
    }

    int rule(int what) {
        if (now == null || what < 0 || what > 5) {
            return NONE;
        }
        return new int[] {now.legs, sees, now.coins, now.credit, now.at, now.loss}[what];
    }

    private int beside(int p) {
        int bits = 0;
        for (int q = 0; q < places; q++) {
            bits += lane[p][q] ? 1 << q : 0;
        }
        return bits;
    }

    int spot(int p, int what) {
        if (!has(p) || what < 0 || what > 4) {
            throw new NoSuchElementException();
        }
        int kind = now.size[p] == 0 ? NONE : now.kind[p];
        return new int[] {now.worth[p], odds[p], kind, now.size[p], beside(p)}[what];
    }

    boolean law(int law) {
        if (law < -1 || law >= laws.size()) {
            return false;
        }
        held = law;
        return true;
    }

    boolean danger(int v) {
        if (v < 0 || v > 9 || v == danger) {
            return false;
        }
        danger = v;
        return true;
    }

    private int growth(State s, int p, int[] sizeThen) {
        int d = steps(s.at, p);
        int n = 0;
        for (int q = 0; q < places; q++) {
            n += lane[p][q] && sizeThen[q] > 0 ? 1 : 0;
        }
        if (held != NONE) {
            Map<Character, Integer> letters = new HashMap<>();
            letters.put('z', sizeThen[p]);
            letters.put('k', s.kind[p]);
            letters.put('w', s.worth[p]);
            letters.put('d', d);
            letters.put('n', n);
            letters.put('h', s.hour % 24);
            return Math.max(-9, Math.min(9, LawText.value(laws.get(held), letters)));
        }
        if (s.kind[p] == 0) {
            return s.worth[p] > 0 ? 1 : -1;
        }
        return s.kind[p] == 2 || d <= 1 ? -1 : 1;
    }

    private int pass(State s) {
        int lost = 0;
        int[] then = s.size.clone();
        for (int p = 0; p < places; p++) {
            int take = then[p] > s.worth[p] ? s.worth[p] : then[p];
            s.worth[p] -= take;
            lost += take;
        }
        for (int p = 0; p < places; p++) {
            if (then[p] > 0) {
                int z = then[p] + growth(s, p, then);
                s.size[p] = z > 9 ? 9 : z < 0 ? 0 : z;
            }
        }
        int[] grown = s.size.clone();
        for (int p = 0; p < places; p++) {
            for (int q = 0; q < places; q++) {
                if (grown[p] >= 5 && s.kind[p] == 0 && lane[p][q] && grown[q] == 0 && s.worth[q] > 0) {
                    s.size[q] = 1;
                    s.kind[q] = 0;
                }
            }
        }
        s.loss = Math.min(9999, s.loss + lost);
        s.log.add(new int[] {lost, troubles(s), s.at});
        if (s.log.size() > 60) {
            s.log.remove(0);
        }
        s.legs = legs;
        s.hour++;
        return lost;
    }

    private int troubles(State s) {
        int bits = 0;
        for (int p = 0; p < places; p++) {
            bits |= s.size[p] > 0 ? 1 << p : 0;
        }
        return bits;
    }

    private void act() {
        acts.push(now.copy());
        if (acts.size() > 40) {
            acts.removeLast();
        }
    }

    private int no(int why) {
        status[why]++;
        return NONE;
    }

    int hours(int n) {
        if (now == null) {
            return no(0);
        }
        if (n < 1 || n > 60) {
            return no(1);
        }
        if (now.hour + n > 9999) {
            return no(4);
        }
        for (int i = 0; i < n; i++) {
            act();
            pass(now);
        }
        return now.hour;
    }

    int walk(int p) {
        if (!has(p)) {
            return no(0);
        }
        if (!lane[now.at][p]) {
            return no(2);
        }
        if (now.legs == 0) {
            return no(3);
        }
        act();
        now.at = p;
        return --now.legs;
    }

    private int hush(State s) {
        int over = 0;
        for (int p = 0; p < places; p++) {
            if (s.size[p] > 0 && steps(s.at, p) <= sees) {
                s.size[p] = 0;
                over++;
            }
        }
        return over;
    }

    int cry() {
        if (now == null) {
            return no(0);
        }
        if (now.credit != 3) {
            return no(3);
        }
        act();
        now.credit = 0;
        return hush(now);
    }

    int whisper() {
        if (now == null) {
            return no(0);
        }
        if (now.size[now.at] == 0) {
            return no(2);
        }
        if (now.credit == 0) {
            return no(3);
        }
        act();
        now.credit--;
        now.size[now.at] -= Math.min(3, now.size[now.at]);
        return now.size[now.at];
    }

    int heir() {
        if (now == null) {
            return no(0);
        }
        if (now.credit == 3) {
            return no(2);
        }
        if (now.coins < 5) {
            return no(3);
        }
        act();
        now.credit = 3;
        now.at = 0;
        now.coins -= 5;
        return now.coins;
    }

    int begin(int p, int kind, int size) {
        if (!has(p)) {
            return no(0);
        }
        if (kind < 0 || kind > 2 || size < 1 || size > 9) {
            return no(1);
        }
        if (now.size[p] > 0) {
            return no(2);
        }
        act();
        now.kind[p] = kind;
        now.size[p] = size;
        return Integer.bitCount(troubles(now));
    }

    int give(int n) {
        if (now == null) {
            return no(0);
        }
        if (n < 1 || n > 50) {
            return no(1);
        }
        if (now.coins + n > 999) {
            return no(3);
        }
        act();
        now.coins += n;
        return now.coins;
    }

    private java.math.BigInteger x;

    private int draw(int of) {
        java.math.BigInteger round = java.math.BigInteger.ONE.shiftLeft(64);
        x = x.multiply(new java.math.BigInteger("6364136223846793005"))
            .add(new java.math.BigInteger("1442695040888963407")).mod(round);
        return x.shiftRight(33).mod(java.math.BigInteger.valueOf(of)).intValue();
    }

    int years(int n, long seed) {
        if (now == null || n < 1 || n > 60 || now.hour + n > 9999) {
            return NONE;
        }
        x = java.math.BigInteger.valueOf(seed);
        for (int i = 0; i < n; i++) {
            act();
            if (draw(10) < danger) {
                int p = draw(places);
                int kind = draw(3);
                int size = draw(3) + 1;
                if (now.size[p] == 0) {
                    now.size[p] = size;
                    now.kind[p] = kind;
                }
            }
            int to = draw(places);
            if (lane[now.at][to]) {
                now.at = to;
            }
            pass(now);
        }
        return now.hour;
    }

    int status(int what) {
        return what < 0 || what > 4 ? NONE : status[what];
    }

    int undo() {
        if (acts.isEmpty()) {
            return NONE;
        }
        now = acts.pop();
        return acts.size();
    }

    int log(int i, int what) {
        if (now == null || i < 0 || i >= now.log.size() || what < 0 || what > 2) {
            return NONE;
        }
        return now.log.get(now.log.size() - 1 - i)[what];
    }

    private int lostIn(State s, int n) {
        int sum = 0;
        for (int i = 0; i < n; i++) {
            sum += pass(s);
        }
        return sum;
    }

    int lost(int n) {
        return now == null || n < 0 || n > 60 ? NONE : lostIn(now.copy(), n);
    }

    int left(int p, int n) {
        if (!has(p) || n < 0 || n > 60) {
            return NONE;
        }
        State s = now.copy();
        lostIn(s, n);
        return s.worth[p];
    }

    private int lostCryingAt(int hour, int n) {
        State s = now.copy();
        int sum = lostIn(s, hour);
        hush(s);
        return sum + lostIn(s, n - hour);
    }

    int saved(int n) {
        return now == null || n < 1 || n > 60 ? HIDDEN : lost(n) - lostCryingAt(0, n);
    }

    int cryAt(int n, int what) {
        if (now == null || n < 1 || n > 24 || what < 0 || what > 1) {
            return NONE;
        }
        int best = n;
        for (int hour = n; hour >= 0; hour--) {
            best = lostCryingAt(hour, n) <= lostCryingAt(best, n) ? hour : best;
        }
        return what == 0 ? best : lostCryingAt(best, n);
    }

    int quiet() {
        for (int n = 0; now != null && n <= 99; n++) {
            State s = now.copy();
            lostIn(s, n);
            if (troubles(s) == 0) {
                return n;
            }
        }
        return NONE;
    }

    private long value(int m) {
        long all = Arrays.stream(odds).sum();
        if (m == 0 || all == 0) {
            return 0;
        }
        long later = value(m - 1);
        long sum = 0;
        for (int p = 0; p < places; p++) {
            sum += odds[p] * Math.max(1000L * now.worth[p], later);
        }
        return sum / all;
    }

    int call(int m, int what) {
        if (now == null || m < 1 || m > 40 || what < 0 || what > 1) {
            return NONE;
        }
        if (what == 0) {
            return (int) value(m);
        }
        int bits = 0;
        for (int p = 0; p < places; p++) {
            bits |= odds[p] > 0 && 1000L * now.worth[p] >= value(m - 1) ? 1 << p : 0;
        }
        return bits;
    }

    private boolean sees(int from, int to) {
        return steps(from, to) <= sees;
    }

    /** Tries every number of m digits as a row. */
    int round(int m, int what) {
        if (now == null || m < 1 || m > 5 || what < 0 || what > 1 || beside(now.at) == 0) {
            return NONE;
        }
        int bestRow = NONE;
        int best = NONE;
        int rows = (int) Math.pow(10, m);
        rows:
        for (int row = 0; row < rows; row++) {
            boolean[] on = new boolean[places];
            int at = now.at;
            on[at] = true;
            for (int unit = rows / 10; unit > 0; unit /= 10) {
                int to = row / unit % 10;
                if (to >= places || !lane[at][to]) {
                    continue rows;
                }
                at = to;
                on[at] = true;
            }
            int sum = 0;
            for (int p = 0; p < places; p++) {
                boolean viewed = false;
                for (int q = 0; q < places; q++) {
                    viewed |= on[q] && sees(q, p);
                }
                sum += viewed ? now.worth[p] : 0;
            }
            if (sum > best) {
                best = sum;
                bestRow = row;
            }
        }
        return what == 0 ? bestRow : best;
    }

    int cover() {
        for (int many = 1; now != null && many <= places; many++) {
            for (int bits = 1; bits < 1 << places; bits++) {
                if (Integer.bitCount(bits) == many && allSeen(bits)) {
                    return bits;
                }
            }
        }
        return NONE;
    }

    private boolean allSeen(int bits) {
        for (int p = 0; p < places; p++) {
            boolean viewed = false;
            for (int q = 0; q < places; q++) {
                viewed |= (bits & 1 << q) != 0 && sees(q, p);
            }
            if (!viewed) {
                return false;
            }
        }
        return true;
    }

    int seen(int p, int n, int v, boolean more) {
        if (!has(p) || n < 1 || n > 20 || v < 0 || v > 99 || seen.size() == 10) {
            return NONE;
        }
        seen.add(new int[] {p, n, v, more ? 1 : 0});
        return seen.size();
    }

    private State behind(int code, int n) {
        State s = told();
        s.kind[code / 100] = code / 10 % 10;
        s.size[code / 100] = code % 10;
        lostIn(s, n);
        return s;
    }

    private List<Integer> fitting() {
        List<Integer> all = new ArrayList<>();
        for (int code = 0; code < 100 * places; code++) {
            boolean fits = code % 10 > 0 && code / 10 % 10 < 3;
            for (int i = 0; fits && i < seen.size(); i++) {
                int[] c = seen.get(i);
                int w = behind(code, c[1]).worth[c[0]];
                fits = c[3] == 1 ? w >= c[2] : w < c[2];
            }
            if (fits) {
                all.add(code);
            }
        }
        return all;
    }

    int fits(int i) {
        if (now == null || i < -1) {
            return NONE;
        }
        List<Integer> all = fitting();
        return i == -1 ? all.size() : i < all.size() ? all.get(i) : NONE;
    }

    int ask(int p) {
        if (!has(p)) {
            return NONE;
        }
        List<Integer> all = fitting();
        int best = NONE;
        int fewest = Integer.MAX_VALUE;
        for (int n = 1; n <= 12 && !all.isEmpty(); n++) {
            Map<Integer, Integer> groups = new HashMap<>();
            for (int code : all) {
                groups.merge(behind(code, n).worth[p], 1, Integer::sum);
            }
            int top = groups.values().stream().max(Integer::compare).get();
            if (top < fewest) {
                fewest = top;
                best = n;
            }
        }
        return best;
    }

    private boolean pair(int one, int other) {
        return has(one) && has(other) && one != other;
    }

    int game(int one, int other, int gx, int gy, int what) {
        if (!pair(one, other) || (gx | gy | what) < 0 || (gx | gy | what) > 1) {
            return HIDDEN;
        }
        int[] both = {one, other};
        int thief = gx != gy ? now.worth[both[gy]] / 10 + 1 : -3;
        return what == 1 ? thief : 0 - thief - steps(now.at, both[gx]);
    }

    int rests(int one, int other, int i) {
        if (!pair(one, other)) {
            return NONE;
        }
        List<Integer> all = new ArrayList<>();
        for (int c : new int[] {0, 1, 10, 11}) {
            int gx = c / 10;
            int gy = c % 10;
            if (game(one, other, 1 - gx, gy, 0) <= game(one, other, gx, gy, 0)
                && game(one, other, gx, 1 - gy, 1) <= game(one, other, gx, gy, 1)) {
                all.add(c);
            }
        }
        return i == -1 ? all.size() : i >= 0 && i < all.size() ? all.get(i) : NONE;
    }

    int odds(int p, int n, int v, int chance) {
        if (!has(p) || n < 0 || n > 6 || v < 0 || v > 999 || chance < 0 || chance > 100) {
            return NONE;
        }
        return (int) parts(now.copy(), p, n, v, chance, 1000000000L);
    }

    private long parts(State s, int p, int n, int v, int chance, long part) {
        if (n == 0) {
            return v <= 0 ? part : 0;
        }
        long with = part * chance / 100;
        State fire = s.copy();
        if (fire.size[p] == 0) {
            fire.size[p] = 1;
            fire.kind[p] = 0;
        }
        int lostByFire = pass(fire);
        int lostElse = pass(s);
        return parts(fire, p, n - 1, v - lostByFire, chance, with)
            + parts(s, p, n - 1, v - lostElse, chance, part - with);
    }

    int shares(int p, int c) {
        if (!has(p) || c < 0 || c > 999) {
            return NONE;
        }
        int all = Arrays.stream(now.worth).sum();
        return all == 0 ? 0 : c * now.worth[p] / all;
    }

    private static int highest(int[] row) {
        int best = 0;
        for (int i = 0; i < row.length; i++) {
            best = row[i] > row[best] ? i : best;
        }
        return best;
    }

    private int bits(java.util.function.IntPredicate test) {
        int bits = 0;
        for (int p = 0; p < places; p++) {
            bits |= test.test(p) ? 1 << p : 0;
        }
        return bits;
    }

    int most(int what) {
        if (now == null || what < 0 || what > 12) {
            return NONE;
        }
        int[] lanes = new int[places];
        int[] far = new int[places];
        for (int p = 0; p < places; p++) {
            lanes[p] = Integer.bitCount(beside(p));
            far[p] = steps(now.at, p);
        }
        State s = now;
        switch (what) {
            case 0: return highest(s.worth);
            case 1: return highest(odds);
            case 2: return highest(lanes);
            case 3: return highest(far);
            case 4: return troubles(s);
            case 5: return bits(p -> sees(s.at, p));
            case 6: case 7: case 8: return bits(p -> s.size[p] > 0 && s.kind[p] == what - 6);
            case 9: return bits(p -> s.worth[p] == 0);
            case 10: return troubles(s) == 0 ? NONE : highest(s.size);
            case 11: return Arrays.stream(s.worth).sum();
            default: return parts();
        }
    }

    private int parts() {
        int[] part = new int[places];
        int parts = 0;
        for (int p = 0; p < places; p++) {
            if (part[p] == 0) {
                parts++;
                for (int q = 0; q < places; q++) {
                    part[q] = steps(p, q) < 99 ? parts : part[q];
                }
            }
        }
        return parts;
    }

    int image() {
        if (now == null) {
            return NONE;
        }
        image = now.copy();
        return now.hour;
    }

    int back() {
        if (image == null) {
            return NONE;
        }
        now = image.copy();
        acts.clear();
        return now.hour;
    }

    int count(int what) {
        if (what < 0 || what > 8) {
            return HIDDEN;
        }
        int hour = now == null ? 0 : now.hour;
        int log = now == null ? 0 : now.log.size();
        return new int[] {places, laws.size(), tape.length(), held, hour, danger, seen.size(), log,
            acts.size()}[what];
    }
}
