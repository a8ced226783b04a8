/** Promises 22 to 37: what would come, rounds, what fits, games, odds, which PLACES. */
public final class AskTest {
    private static final Due DUE = new Due();
    private static final int ALL = 1000000000;
    private static final String LINE = "sg2e1k9;pw50o3;pw30;pw20o0;pw10;l;la1b2";

    public static void main(String[] args) {
        losses();
        savings();
        cryHours();
        quiets();
        calls();
        rounds();
        covers();
        clues();
        asks();
        games();
        rests();
        odds();
        shares();
        most();
        nothingChanges();
        DUE.close("AskTest");
    }

    private static void losses() {
        BelievedOnce x = Due.town(LINE);
        x.begin(0, 0, 4);
        x.begin(3, 2, 3);
        int[] lost = {0, 7, 15, 24, 34};
        for (int n = 0; n < lost.length; n++) {
            DUE.is("lost(" + n + ")", x.lost(n), lost[n]);
        }
        DUE.is("lost(-1)", x.lost(-1), -1);
        DUE.is("lost(61)", x.lost(61), -1);
        DUE.is("lost(60)", x.lost(60), 106);
        DUE.is("left(3, 0)", x.left(3, 0), 10);
        DUE.is("left(3, 2)", x.left(3, 2), 5);
        DUE.is("left(3, 60)", x.left(3, 60), 4);
        DUE.is("left(0, 60)", x.left(0, 60), 0);
        DUE.is("left(0, 61)", x.left(0, 61), -1);
        DUE.is("left(0, -1)", x.left(0, -1), -1);
        DUE.is("left(4, 1)", x.left(4, 1), -1);
        DUE.is("left(-1, 1)", x.left(-1, 1), -1);
        x.hours(1);
        DUE.is("lost(1) more", x.lost(1), 8);
    }

    private static void savings() {
        BelievedOnce x = Due.town(LINE);
        x.begin(0, 0, 4);
        x.begin(3, 2, 3);
        DUE.is("saved(1)", x.saved(1), 4);
        DUE.is("saved(2)", x.saved(2), 10);
        DUE.is("saved(60)", x.saved(60), 100);
        DUE.is("saved(0)", x.saved(0), -1000000);
        DUE.is("saved(61)", x.saved(61), -1000000);
        x.cry();
        DUE.is("saved(9) of none", x.saved(9), 0);
        x.begin(0, 0, 4);
        DUE.is("saved(2) without CREDIT", x.saved(2), 10);
        x = Due.town("se0;pw50;pw50;l");
        Due.hold(x, "y:n=1?0-9;y:1");
        x.begin(0, 2, 1);
        x.begin(1, 1, 2);
        DUE.is("saved(3): a cry is worse", x.saved(3), 3 - 9);
    }

    private static void cryHours() {
        BelievedOnce x = Due.town("se1;pw50;pw50;pw50;l;la1b2");
        x.begin(2, 0, 4);
        DUE.is("cryAt(1, 0)", x.cryAt(1, 0), 0);
        DUE.is("cryAt(1, 1)", x.cryAt(1, 1), 4);
        DUE.is("cryAt(3, 0): the fire that came to 1", x.cryAt(3, 0), 1);
        DUE.is("cryAt(3, 1)", x.cryAt(3, 1), 4 + 6 + 6);
        DUE.is("cryAt(2, 0)", x.cryAt(2, 0), 1);
        DUE.is("cryAt(2, 1)", x.cryAt(2, 1), 9);
        DUE.is("cryAt(0, 0)", x.cryAt(0, 0), -1);
        DUE.is("cryAt(25, 0)", x.cryAt(25, 0), -1);
        DUE.is("cryAt(1, 2)", x.cryAt(1, 2), -1);
        DUE.is("cryAt(1, -1)", x.cryAt(1, -1), -1);
        x = Due.town("p;p");
        DUE.is("cryAt(24, 0) at nothing", x.cryAt(24, 0), 0);
        DUE.is("cryAt(24, 1) at nothing", x.cryAt(24, 1), 0);
        x = Due.town("se0;pw50;pw50;l");
        Due.hold(x, "y:n=1?0-9;y:0");
        x.begin(0, 2, 1);
        x.begin(1, 1, 2);
        DUE.is("cryAt(2, 0): a cry is worse at once", x.cryAt(2, 0), 1);
        DUE.is("cryAt(2, 1)", x.cryAt(2, 1), 3);
    }

    private static void quiets() {
        BelievedOnce x = Due.town("pw3;pw20");
        DUE.is("quiet()", x.quiet(), 0);
        x.begin(0, 0, 2);
        DUE.is("quiet()", x.quiet(), 4);
        x.begin(1, 2, 9);
        DUE.is("quiet()", x.quiet(), 9);
        Due.hold(x, "y:0");
        DUE.is("quiet() never", x.quiet(), -1);
        x.hours(1);
        Due.hold(x, "y:h=3?0-9");
        DUE.is("quiet() behind HOUR 3", x.quiet(), 3);
        x = Due.town("pw99;pw99");
        Due.hold(x, "y:w=0&h=2?0-9;y:0");
        x.begin(0, 1, 1);
        DUE.is("quiet() behind 99", x.quiet(), 99);
        Due.hold(x, "y:w=0&h=3?0-9;y:0");
        DUE.is("quiet() behind 100", x.quiet(), -1);
    }

    private static void calls() {
        BelievedOnce x = Due.town("pw10o1;pw20o2;pw99o0;pw40o1");
        int[] values = {22500, 26875, 30156, 32617};
        int[] heeds = {11, 8, 8, 8};
        for (int m = 1; m <= 4; m++) {
            DUE.is("call(" + m + ", 0)", x.call(m, 0), values[m - 1]);
            DUE.is("call(" + m + ", 1)", x.call(m, 1), heeds[m - 1]);
        }
        DUE.is("call(40, 0)", x.call(40, 0) < 40000, true);
        DUE.is("call(41, 0)", x.call(41, 0), -1);
        DUE.is("call(0, 0)", x.call(0, 0), -1);
        DUE.is("call(1, 2)", x.call(1, 2), -1);
        DUE.is("call(1, -1)", x.call(1, -1), -1);
        x = Due.town("po0;po0");
        DUE.is("call(5, 0) without ODDS", x.call(5, 0), 0);
        DUE.is("call(5, 1) without ODDS", x.call(5, 1), 0);
        x = Due.town("pw7o9;pw7o3");
        DUE.is("call(9, 0)", x.call(9, 0), 7000);
        DUE.is("call(9, 1): as much counts", x.call(9, 1), 3);
        x.begin(0, 1, 2);
        x.hours(1);
        DUE.is("call(1, 0) by WORTH as now", x.call(1, 0), (9 * 5000 + 3 * 7000) / 12);
    }

    private static void rounds() {
        BelievedOnce x = Due.town("se0;pw5;pw9;pw8;pw30;p;l;lb2;la2b3");
        DUE.is("round(1, 0)", x.round(1, 0), 1);
        DUE.is("round(1, 1)", x.round(1, 1), 14);
        DUE.is("round(2, 0)", x.round(2, 0), 23);
        DUE.is("round(2, 1)", x.round(2, 1), 43);
        DUE.is("round(3, 0)", x.round(3, 0), 232);
        DUE.is("round(4, 0)", x.round(4, 0), 1023);
        DUE.is("round(4, 1)", x.round(4, 1), 52);
        DUE.is("round(5, 0)", x.round(5, 0), 10232);
        DUE.is("round(0, 0)", x.round(0, 0), -1);
        DUE.is("round(6, 0)", x.round(6, 0), -1);
        DUE.is("round(1, 2)", x.round(1, 2), -1);
        x.walk(1);
        DUE.is("round(2, 0): a row that begins with 0", x.round(2, 0), 2);
        x = Due.town("p;p;p;la1b2");
        DUE.is("round(1, 0) with nothing beside", x.round(1, 0), -1);
        DUE.is("round(1, 1) with nothing beside", x.round(1, 1), -1);
        x = Due.town("se1;pw1;pw1;pw1;pw90;l;lb2;la2b3");
        DUE.is("round(1, 0) by what he SEES", x.round(1, 0), 2);
        DUE.is("round(1, 1)", x.round(1, 1), 93);
    }

    private static void covers() {
        DUE.is("cover() of none near", Due.town("se0;p;p;p").cover(), 7);
        DUE.is("cover() of a row", Due.town("se1;p;p;p;p;p;l;la1b2;la2b3;la3b4").cover(), 9);
        DUE.is("cover() of a star", Due.town("se1;p;p;p;p;la3b0;la3b1;la3b2").cover(), 8);
        DUE.is("cover() of a ring", Due.town("se2;p;p;p;p;p;p;l;la1b2;la2b3;la3b4;la4b5;la5b0").cover(), 3);
        DUE.is("cover() of a pair", Due.town("p;p;l").cover(), 1);
        DUE.is("cover() of eight alone", Due.town("se4;p;p;p;p;p;p;p;p").cover(), 255);
    }

    private static void clues() {
        BelievedOnce x = Due.town("pw40;pw40;l");
        DUE.is("fits(NONE) of all", x.fits(-1), 54);
        DUE.is("fits(0)", x.fits(0), 1);
        DUE.is("fits(26)", x.fits(26), 29);
        DUE.is("fits(27)", x.fits(27), 101);
        DUE.is("fits(53)", x.fits(53), 129);
        DUE.is("fits(54)", x.fits(54), -1);
        DUE.is("fits(-2)", x.fits(-2), -1);
        DUE.is("seen: 33 or more", x.seen(0, 1, 33, true), 1);
        DUE.is("fits(NONE)", x.fits(-1), 21 + 27);
        DUE.is("seen: less than 34", x.seen(0, 1, 34, false), 2);
        DUE.is("fits(NONE)", x.fits(-1), 3);
        DUE.is("fits(0)", x.fits(0), 7);
        DUE.is("fits(2)", x.fits(2), 27);
        DUE.is("seen: grew to 8", x.seen(0, 2, 26, false), 3);
        DUE.is("fits(NONE)", x.fits(-1), 1);
        DUE.is("fits(0)", x.fits(0), 7);
        x.walk(1);
        x.begin(0, 0, 9);
        x.hours(2);
        DUE.is("fits(0) by the TOWN as told", x.fits(0), 7);
        Due.hold(x, "y:0-1");
        DUE.is("fits(NONE) by a LAW", x.fits(-1), 0);
        DUE.is("fits(0)", x.fits(0), -1);
        DUE.is("ask(0) when nothing fits", x.ask(0), -1);
        Due.hold(x, "y:1");
        DUE.is("fits(NONE) by another", x.fits(-1), 3);
        DUE.is("seen(2)", x.seen(2, 1, 1, true), -1);
        DUE.is("seen(-1)", x.seen(-1, 1, 1, true), -1);
        DUE.is("seen behind 0", x.seen(0, 0, 1, true), -1);
        DUE.is("seen behind 21", x.seen(0, 21, 1, true), -1);
        DUE.is("seen of -1", x.seen(0, 1, -1, true), -1);
        DUE.is("seen of 100", x.seen(0, 1, 100, true), -1);
        DUE.is("count(6)", x.count(6), 3);
        for (int i = 4; i <= 10; i++) {
            DUE.is("seen", x.seen(1, 20, 0, true), i);
        }
        DUE.is("an 11th seen", x.seen(1, 20, 99, true), -1);
        DUE.is("fits(NONE)", x.fits(-1), 3);
        x.undo();
        DUE.is("SEEN is not UNDONE", x.count(6), 10);
    }

    /**
     * Thieves and floods leave the same where he stands. Fires of 1 .. 9 leave something else than all
     * of them from the tenth HOUR on: they have taken 54 or more then, the others 45 at most.
     */
    private static void asks() {
        BelievedOnce x = Due.town("pw99;p");
        DUE.is("ask(0): 27 leave all", x.ask(0), 1);
        x.seen(0, 1, 99, false);
        DUE.is("fits(NONE)", x.fits(-1), 27);
        DUE.is("ask(0)", x.ask(0), 10);
        DUE.is("ask(1)", x.ask(1), 1);
        DUE.is("ask(2)", x.ask(2), -1);
        DUE.is("ask(-1)", x.ask(-1), -1);
        x.seen(0, 1, 99, true);
        DUE.is("ask(0) when nothing fits", x.ask(0), -1);
    }

    private static void games() {
        BelievedOnce x = Due.town(LINE);
        DUE.is("game(1, 2, 0, 1, 0)", x.game(1, 2, 0, 1, 0), -4);
        DUE.is("game(1, 2, 0, 1, 1)", x.game(1, 2, 0, 1, 1), 3);
        DUE.is("game(1, 2, 1, 1, 0)", x.game(1, 2, 1, 1, 0), 1);
        DUE.is("game(1, 2, 1, 1, 1)", x.game(1, 2, 1, 1, 1), -3);
        DUE.is("game(1, 2, 1, 0, 0)", x.game(1, 2, 1, 0, 0), -6);
        DUE.is("game(0, 3, 1, 0, 0) where there is no way", x.game(0, 3, 1, 0, 0), -105);
        int[][] wrong = {{0, 0, 0, 0, 0}, {4, 0, 0, 0, 0}, {0, -1, 0, 0, 0}, {0, 1, 2, 0, 0}, {0, 1, -1, 0, 0},
            {0, 1, 0, 2, 0}, {0, 1, 0, -1, 0}, {0, 1, 0, 0, 2}, {0, 1, 0, 0, -1}};
        for (int[] w : wrong) {
            DUE.is("game " + java.util.Arrays.toString(w), x.game(w[0], w[1], w[2], w[3], w[4]), -1000000);
        }
        x.walk(1);
        DUE.is("game(0, 1, 0, 0, 0) from 1", x.game(0, 1, 0, 0, 0), 2);
        x.begin(1, 2, 1);
        x.hours(1);
        DUE.is("game(0, 1, 0, 1, 1) by WORTH as now", x.game(0, 1, 0, 1, 1), 29 / 10 + 1);
        x.begin(3, 1, 9);
        x.hours(2);
        DUE.is("game(0, 3, 0, 1, 1) for a ruin", x.game(0, 3, 0, 1, 1), 1);
    }

    private static void rests() {
        BelievedOnce x = Due.town(LINE);
        DUE.is("rests(0, 1, NONE)", x.rests(0, 1, -1), 0);
        DUE.is("rests(0, 1, 0)", x.rests(0, 1, 0), -1);
        DUE.is("rests(0, 3, NONE)", x.rests(0, 3, -1), 1);
        DUE.is("rests(0, 3, 0)", x.rests(0, 3, 0), 1);
        DUE.is("rests(0, 3, 1)", x.rests(0, 3, 1), -1);
        DUE.is("rests(0, 3, -2)", x.rests(0, 3, -2), -1);
        DUE.is("rests(3, 0, 0)", x.rests(3, 0, 0), 10);
        DUE.is("rests(0, 0, NONE)", x.rests(0, 0, -1), -1);
        DUE.is("rests(0, 4, NONE)", x.rests(0, 4, -1), -1);
        DUE.is("rests(-1, 0, NONE)", x.rests(-1, 0, -1), -1);
        String row = "p;p;p;p;l;la1b2;la2b3;la3b4;pw";
        DUE.is("rests(0, 4, 0): as much is not more", Due.town(row + "9").rests(0, 4, 0), 1);
        DUE.is("rests(0, 4, NONE)", Due.town(row + "10").rests(0, 4, -1), 0);
    }

    private static void odds() {
        BelievedOnce x = Due.town("pw50;pw50");
        DUE.is("odds(0, 1, 1, 30)", x.odds(0, 1, 1, 30), 300000000);
        DUE.is("odds(0, 1, 0, 30)", x.odds(0, 1, 0, 30), ALL);
        DUE.is("odds(0, 2, 1, 30)", x.odds(0, 2, 1, 30), 510000000);
        DUE.is("odds(0, 2, 2, 30)", x.odds(0, 2, 2, 30), 300000000);
        DUE.is("odds(0, 2, 3, 30)", x.odds(0, 2, 3, 30), 300000000);
        DUE.is("odds(0, 2, 4, 30)", x.odds(0, 2, 4, 30), 0);
        DUE.is("odds(0, 6, 21, 100)", x.odds(0, 6, 21, 100), ALL);
        DUE.is("odds(0, 6, 22, 100)", x.odds(0, 6, 22, 100), 0);
        DUE.is("odds(0, 6, 1, 0)", x.odds(0, 6, 1, 0), 0);
        DUE.is("odds(0, 6, 1, 33): cut", x.odds(0, 6, 1, 33), 909541617);
        DUE.is("odds(0, 6, 2, 33): cut", x.odds(0, 6, 2, 33), 864987489);
        DUE.is("odds(0, 0, 1, 50)", x.odds(0, 0, 1, 50), 0);
        int[][] wrong = {{2, 1, 1, 1}, {-1, 1, 1, 1}, {0, -1, 1, 1}, {0, 7, 1, 1}, {0, 1, -1, 1}, {0, 1, 1000, 1},
            {0, 1, 1, -1}, {0, 1, 1, 101}};
        for (int[] w : wrong) {
            DUE.is("odds " + java.util.Arrays.toString(w), x.odds(w[0], w[1], w[2], w[3]), -1);
        }
        DUE.is("odds(1, 6, 999, 100)", x.odds(1, 6, 999, 100), 0);
        x.begin(0, 2, 1);
        DUE.is("odds(0, 1, 2, 50): a flood is there", x.odds(0, 1, 2, 50), 0);
        DUE.is("odds(0, 2, 2, 50)", x.odds(0, 2, 2, 50), 500000000);
        DUE.is("odds(1, 1, 2, 50): LOST in all PLACES", x.odds(1, 1, 2, 50), 500000000);
    }

    private static void shares() {
        BelievedOnce x = Due.town(LINE);
        DUE.is("shares(0, 110)", x.shares(0, 110), 50);
        DUE.is("shares(1, 100)", x.shares(1, 100), 27);
        DUE.is("shares(3, 999)", x.shares(3, 999), 90);
        DUE.is("shares(0, 0)", x.shares(0, 0), 0);
        DUE.is("shares(0, 1000)", x.shares(0, 1000), -1);
        DUE.is("shares(0, -1)", x.shares(0, -1), -1);
        DUE.is("shares(4, 1)", x.shares(4, 1), -1);
        DUE.is("shares(-1, 1)", x.shares(-1, 1), -1);
        x = Due.town("pw1;pw1");
        x.begin(0, 2, 1);
        x.hours(1);
        DUE.is("shares(1, 9)", x.shares(1, 9), 9);
        x.begin(1, 2, 1);
        x.hours(1);
        DUE.is("shares(1, 9) of none", x.shares(1, 9), 0);
        DUE.is("most(9)", x.most(9), 3);
        DUE.is("most(0)", x.most(0), 0);
        DUE.is("most(11)", x.most(11), 0);
    }

    private static void mosts(BelievedOnce x, int... want) {
        for (int i = 0; i < want.length; i++) {
            DUE.is("most(" + i + ")", x.most(i), want[i]);
        }
    }

    private static void most() {
        BelievedOnce x = Due.town(LINE);
        mosts(x, 0, 0, 1, 3, 0, 3, 0, 0, 0, 0, -1, 110, 2, -1);
        DUE.is("most(-1)", x.most(-1), -1);
        x.begin(1, 1, 3);
        x.begin(2, 2, 3);
        x.begin(3, 0, 2);
        x.walk(1);
        mosts(x, 0, 0, 1, 3, 14, 7, 8, 2, 4, 0, 1, 110, 2);
        x.hours(5);
        mosts(x, 0, 0, 1, 3, 8, 7, 8, 0, 0, 8, 3, 88, 2);
        mosts(Due.town("p;p;p"), 0, 0, 0, 1, 0, 1, 0, 0, 0, 0, -1, 60, 3);
        mosts(Due.town("pw5o1;pw9o9;pw9o9;pw1;pw1;l;l;l;la2b3;la2b4"), 1, 1, 2, 2, 0, 3, 0, 0, 0, 0, -1, 25, 2);
        mosts(Due.town("se0;p;p;p;p;p;p;p;p"), 0, 0, 0, 1, 0, 1, 0, 0, 0, 0, -1, 160, 8);
        mosts(Due.town("se2;p;p;p;p;l;la1b2;la2b3"), 0, 0, 1, 3, 0, 7, 0, 0, 0, 0, -1, 80, 1);
    }

    private static void nothingChanges() {
        BelievedOnce x = Due.town(LINE);
        x.begin(0, 0, 4);
        x.walk(1);
        x.hours(2);
        x.seen(0, 1, 47, false);
        int before = told(x);
        x.lost(60);
        x.left(0, 60);
        x.saved(60);
        x.cryAt(24, 0);
        x.quiet();
        x.call(40, 1);
        x.round(5, 0);
        x.cover();
        x.fits(-1);
        x.ask(0);
        x.rests(0, 3, 0);
        x.odds(3, 6, 1, 50);
        x.most(12);
        DUE.is("all is as it was", told(x), before);
        DUE.is("ACTS", x.count(8), 4);
    }

    private static int told(BelievedOnce x) {
        int sum = 0;
        for (int i = 0; i < 9; i++) {
            sum = 31 * sum + x.count(i);
            sum = 31 * sum + (i < 6 ? x.rule(i) : 0);
            sum = 31 * sum + (i < 5 ? x.status(i) : 0);
            sum = 31 * sum + x.log(0, i) + 7 * x.log(1, i);
        }
        for (int p = 0; p < 4; p++) {
            for (int i = 0; i < 5; i++) {
                sum = 31 * sum + x.spot(p, i);
            }
        }
        return sum;
    }
}
