import java.util.NoSuchElementException;
import java.util.Random;

/** Long runs of calls by chance (always the same ones), each answer held against the model's. */
public final class ModelTest {
    private static final int RUNS = 600;
    private static final int CALLS = 300;
    private static final int TEXTS = 60000;
    private static final Due DUE = new Due();
    private static Random chance;
    private static BelievedOnce x;
    private static Model m;
    private static String latest = "";

    public static void main(String[] args) {
        for (int i = 0; i < TEXTS; i++) {
            chance = new Random(i);
            faults(i);
        }
        for (int run = 0; run < RUNS; run++) {
            chance = new Random(1000003L * run);
            x = new BelievedOnce();
            m = new Model();
            for (int i = 0; i < CALLS; i++) {
                latest = "";
                step();
                states("run " + run + ", call " + i + " " + latest);
            }
        }
        DUE.close("ModelTest");
    }

    private static int below(int n) {
        return chance.nextInt(n);
    }

    /** Mostly within the bounds, now and then just beyond. */
    private static int near(int least, int most) {
        int r = below(40);
        return r == 0 ? least - 1 : r == 1 ? most + 1 : r == 2 ? least : r == 3 ? most
            : least + below(most - least + 1);
    }

    private static int place() {
        return below(12) == 0 ? below(12) - 2 : below(Math.max(1, m.places));
    }

    private static void is(String call, long got, long want) {
        latest = call;
        DUE.is(call, got, want);
    }

    private static void is(String call, boolean got, boolean want) {
        is(call, got ? 1 : 0, want ? 1 : 0);
    }

    private static void faults(int i) {
        boolean town = i % 2 == 0;
        StringBuilder text = new StringBuilder(town ? townText() : lawText());
        int changes = below(3);
        for (int j = 0; j < changes && text.length() > 0; j++) {
            String signs = town ? "spl;geckwoab0123456789 ;p" : "y:;!()[]&|?=<>+-*/zkwdnh0123456789 x";
            char sign = signs.charAt(below(signs.length()));
            int at = below(text.length());
            int how = below(3);
            if (how == 0) {
                text.setCharAt(at, sign);
            } else if (how == 1) {
                text.insert(at, sign);
            } else {
                text.deleteCharAt(at);
            }
        }
        if (text.length() > 240) {
            text.setLength(240);
        }
        BelievedOnce y = new BelievedOnce();
        Due.lay(y, text.toString());
        int want = town ? TownText.fault(text.toString()) : LawText.fault(text.toString());
        DUE.is("fault of '" + text + "'", y.fault(town ? 0 : 1), want);
    }

    private static String blank() {
        return below(15) == 0 ? " " : "";
    }

    private static String item(char letter, int least, int most) {
        if (below(3) == 0) {
            return "";
        }
        int value = least + below(most - least + 1);
        return blank() + letter + blank() + (value < 10 && below(9) == 0 ? "0" : "") + value;
    }

    private static String townText() {
        int places = 2 + below(7);
        StringBuilder text = new StringBuilder();
        int lanes = below(13);
        boolean small = below(3) == 0;
        boolean ruled = below(4) > 0;
        if (ruled) {
            text.append(blank()).append('s').append(item('g', 1, 5)).append(item('e', 0, 4))
                .append(item('k', 0, small ? 9 : 99));
        }
        for (int i = 0; i < places; i++) {
            text.append(text.length() > 0 ? ";" : "").append(blank()).append('p')
                .append(item('w', 1, small ? 12 : 99)).append(item('o', 0, 9));
        }
        for (int i = 0; i < lanes; i++) {
            int a = below(places);
            int b = (a + 1 + below(places - 1)) % places;
            text.append(";l").append(blank()).append('a').append(a).append(blank()).append('b').append(b);
        }
        return text.append(blank()).toString();
    }

    private static String lawText() {
        StringBuilder text = new StringBuilder();
        int clauses = 1 + below(3);
        for (int i = 0; i < clauses; i++) {
            text.append(i > 0 ? ";" : "").append(blank()).append("y").append(blank()).append(":");
            if (below(3) > 0) {
                text.append(condition(below(5))).append(blank()).append('?');
            }
            text.append(sum(below(4)));
        }
        return text.length() > 240 ? "y:" + sum(2) : text.toString();
    }

    private static String condition(int depth) {
        StringBuilder text = new StringBuilder(unit(depth));
        for (int i = below(3); i > 0; i--) {
            text.append(blank()).append(below(2) == 0 ? '|' : '&').append(blank()).append(unit(depth));
        }
        return text.toString();
    }

    private static String unit(int depth) {
        if (depth > 0 && below(3) == 0) {
            return below(2) == 0 ? "!" + blank() + unit(depth - 1) : "(" + condition(depth - 1) + blank() + ")";
        }
        return sum(Math.min(depth, 1)) + blank() + "=<>".charAt(below(3)) + sum(0);
    }

    private static String sum(int depth) {
        StringBuilder text = new StringBuilder(atom(depth));
        for (int i = below(3); i > 0; i--) {
            text.append(blank()).append("+-*/--".charAt(below(6))).append(atom(depth));
        }
        return text.toString();
    }

    private static String atom(int depth) {
        if (depth > 0 && below(3) == 0) {
            return blank() + "[" + sum(depth - 1) + blank() + "]";
        }
        int r = below(20);
        return blank() + (r < 10 ? "zkwdnh".substring(r % 6, r % 6 + 1)
            : r < 19 ? "" + below(10) : "" + (below(2) == 0 ? 9999 : below(10000)));
    }

    private static void lay(String text) {
        Due.lay(x, text);
        m.tape = text.length() > 240 ? text.substring(0, x.count(2)) : text;
        is("count(2)", x.count(2), m.count(2));
    }

    private static void step() {
        int r = below(100);
        if (m.now == null && r < 30) {
            lay(townText());
            is("text(0)", x.text(0), m.text(0));
        } else if (r < 55) {
            acts(below(26));
        } else if (r < 97) {
            asks(below(24));
        } else {
            texts(below(12));
        }
    }

    private static void texts(int which) {
        switch (which) {
            case 0:
                lay(townText());
                is("text(0)", x.text(0), m.text(0));
                break;
            case 1: case 2: case 3: case 4:
                lay(lawText());
                is("text(1)", x.text(1), m.text(1));
                break;
            case 5: {
                int a = chance.nextInt();
                is("feed", x.feed(a, 0, a >>> 16, 0, 7), m.feed(a, 0, a >>> 16, 0, 7));
                break;
            }
            case 6: {
                int n = near(0, m.tape.length());
                is("end(" + n + ")", x.end(n), m.end(n));
                break;
            }
            case 7: {
                int s = near(0, 1);
                is("fault(" + s + ")", x.fault(s), m.fault(s));
                break;
            }
            case 8: {
                int v = near(0, 9);
                is("danger(" + v + ")", x.danger(v), m.danger(v));
                break;
            }
            default: {
                int law = near(-1, Math.max(0, m.laws.size() - 1));
                is("law(" + law + ")", x.law(law), m.law(law));
            }
        }
    }

    private static void acts(int which) {
        int p = place();
        int n = near(1, below(6) == 0 ? 60 : 4);
        int kind = near(0, 2);
        int size = near(1, 9);
        int coins = near(1, 50);
        long seed = below(3) == 0 ? chance.nextInt(100) : chance.nextLong();
        switch (which) {
            case 0: case 1: case 2: case 3:
                is("hours(" + n + ")", x.hours(n), m.hours(n));
                break;
            case 4: case 5: case 6: case 7:
                is("walk(" + p + ")", x.walk(p), m.walk(p));
                break;
            case 8: is("cry()", x.cry(), m.cry()); break;
            case 9: case 10: is("whisper()", x.whisper(), m.whisper()); break;
            case 11: case 12: is("heir()", x.heir(), m.heir()); break;
            case 13: case 14: case 15: case 16: case 17: case 18:
                is("begin(" + p + ", " + kind + ", " + size + ")", x.begin(p, kind, size), m.begin(p, kind, size));
                break;
            case 19: is("give(" + coins + ")", x.give(coins), m.give(coins)); break;
            case 20: is("years(" + n + ", " + seed + ")", x.years(n, seed), m.years(n, seed)); break;
            case 21: case 22: case 23: is("undo()", x.undo(), m.undo()); break;
            case 24: is("image()", x.image(), m.image()); break;
            default:
                if (below(3) == 0) {
                    is("back()", x.back(), m.back());
                }
        }
    }

    private static void asks(int which) {
        int p = place();
        int q = place();
        int n = near(0, 60);
        int what = near(0, 1);
        switch (which) {
            case 0: is("lost(" + n + ")", x.lost(n), m.lost(n)); break;
            case 1: is("left(" + p + ", " + n + ")", x.left(p, n), m.left(p, n)); break;
            case 2: is("saved(" + n + ")", x.saved(n), m.saved(n)); break;
            case 3: {
                int k = near(1, 24);
                is("cryAt(" + k + ", " + what + ")", x.cryAt(k, what), m.cryAt(k, what));
                break;
            }
            case 4: is("quiet()", x.quiet(), m.quiet()); break;
            case 5: {
                int k = near(1, 40);
                is("call(" + k + ", " + what + ")", x.call(k, what), m.call(k, what));
                break;
            }
            case 6: {
                int k = near(1, below(5) == 0 ? 5 : 3);
                is("round(" + k + ", " + what + ")", x.round(k, what), m.round(k, what));
                break;
            }
            case 7: is("cover()", x.cover(), m.cover()); break;
            case 8: case 9: knowledge(); break;
            case 10: case 11: {
                int a = near(0, 1);
                int b = near(0, 1);
                is("game " + p + " " + q + " " + a + " " + b, x.game(p, q, a, b, what), m.game(p, q, a, b, what));
                break;
            }
            case 12: {
                int i = near(-1, 2);
                is("rests(" + p + ", " + q + ", " + i + ")", x.rests(p, q, i), m.rests(p, q, i));
                break;
            }
            case 13: case 14: {
                int k = near(0, 6);
                int v = near(0, below(4) == 0 ? 999 : 40);
                int c = near(0, 100);
                is("odds(" + p + ", " + k + ", " + v + ", " + c + ")", x.odds(p, k, v, c), m.odds(p, k, v, c));
                break;
            }
            case 15: {
                int c = near(0, 999);
                is("shares(" + p + ", " + c + ")", x.shares(p, c), m.shares(p, c));
                break;
            }
            case 16: is("steps(" + p + ", " + q + ")", x.steps(p, q), m.steps(p, q)); break;
            case 17: spots(p, near(0, 4)); break;
            default: {
                int w = near(0, 12);
                is("most(" + w + ")", x.most(w), m.most(w));
            }
        }
    }

    private static void knowledge() {
        int p = place();
        int r = below(6);
        if (r < 2) {
            int n = near(1, 20);
            int v = near(0, below(3) == 0 ? 99 : 25);
            boolean more = below(3) == 0;
            is("seen(" + p + ", " + n + ", " + v + ", " + more + ")", x.seen(p, n, v, more), m.seen(p, n, v, more));
        } else if (r < 5) {
            int i = below(3) == 0 ? -1 : near(-1, 30);
            is("fits(" + i + ")", x.fits(i), m.fits(i));
        } else {
            is("ask(" + p + ")", x.ask(p), m.ask(p));
        }
    }

    private static void spots(int p, int what) {
        long got = -77;
        long want = -77;
        try {
            got = x.spot(p, what);
        } catch (NoSuchElementException e) {
            got = -99;
        }
        try {
            want = m.spot(p, what);
        } catch (NoSuchElementException e) {
            want = -99;
        }
        is("spot(" + p + ", " + what + ")", got, want);
    }

    /** What can be asked cheaply is asked behind each call. */
    private static void states(String where) {
        for (int i = 0; i <= 8; i++) {
            DUE.is(where + ": count(" + i + ")", x.count(i), m.count(i));
        }
        for (int i = 0; i <= 5; i++) {
            DUE.is(where + ": rule(" + i + ")", x.rule(i), m.rule(i));
        }
        for (int i = 0; i <= 4; i++) {
            DUE.is(where + ": status(" + i + ")", x.status(i), m.status(i));
        }
        for (int p = 0; p < m.places; p++) {
            for (int i = 0; i <= 4; i++) {
                DUE.is(where + ": spot(" + p + ", " + i + ")", x.spot(p, i), m.spot(p, i));
            }
        }
        for (int i = -1; i <= 61; i++) {
            int what = near(0, 2);
            DUE.is(where + ": log(" + i + ", " + what + ")", x.log(i, what), m.log(i, what));
        }
    }
}
