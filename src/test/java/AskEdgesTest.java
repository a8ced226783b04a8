/** What would come and which PLACES (promises 22 to 37): a test for each sentence that names a boundary case. */
public final class AskEdgesTest {
    private static final Due DUE = new Due();
    private static final int LOW = Integer.MIN_VALUE;
    private static final int FAR = Integer.MAX_VALUE;
    private static final int ALL = 1000000000;
    private static final int HIDDEN = -1000000;
    private static final String LINE = "sg2e1k9;pw50o3;pw30;pw20o0;pw10;l;la1b2";
    private static final String ROW_OF_EIGHT = "p;p;p;p;p;p;p;p;l;la1b2;la2b3;la3b4;la4b5;la5b6;la6b7";

    public static void main(String[] args) {
        noTown();
        lost();
        left();
        saved();
        cryAt();
        quiet();
        behindTheLastHour();
        standsAndSaysNothing();
        callBounds();
        callValues();
        heed();
        roundBounds();
        roundRows();
        covers();
        farthest();
        seenBounds();
        tenSeen();
        seenMarks();
        fits();
        asTold();
        ask();
        game();
        rests();
        oddsBounds();
        oddsParts();
        oddsFires();
        shares();
        ofSeveral();
        bits();
        worst();
        parts();
        DUE.close("AskEdgesTest");
    }

    private static void noTown() {
        DUE.says("NONE: no TOWN, no such PLACE; HIDDEN: no TOWN, no such PLACES");
        BelievedOnce x = new BelievedOnce();
        int[] got = {x.lost(0), x.lost(1), x.left(0, 0), x.cryAt(1, 0), x.cryAt(1, 1), x.quiet(), x.call(1, 0),
            x.call(1, 1), x.round(1, 0), x.round(1, 1), x.cover(), x.seen(0, 1, 1, true), x.fits(-1), x.fits(0),
            x.ask(0), x.rests(0, 1, -1), x.rests(0, 1, 0), x.odds(0, 0, 0, 0), x.shares(0, 0), x.steps(0, 0)};
        for (int i = 0; i < got.length; i++) {
            DUE.is("without a TOWN, call " + i, got[i], -1);
        }
        for (int what = -1; what <= 13; what++) {
            DUE.is("most(" + what + ")", x.most(what), -1);
        }
        DUE.is("saved(1)", x.saved(1), HIDDEN);
        DUE.is("game(0, 1, 0, 0, 0)", x.game(0, 1, 0, 0, 0), HIDDEN);
        DUE.statuses("no STATUS", x, 0, 0, 0, 0, 0);
    }

    private static BelievedOnce flooded() {
        BelievedOnce x = Due.town(LINE);
        x.begin(0, 2, 3);
        x.begin(3, 2, 9);
        return x;
    }

    private static void lost() {
        DUE.says("LOST in n (0 .. 60) HOURS: how much more LOSS there is then");
        BelievedOnce x = flooded();
        int[] want = {0, 12, 2 + 12 + 1, 16, 16};
        for (int n = 0; n < want.length; n++) {
            DUE.is("lost(" + n + ")", x.lost(n), want[n]);
        }
        DUE.is("lost(60)", x.lost(60), 16);
        x.hours(1);
        DUE.is("LOSS", x.rule(5), 12);
        DUE.is("lost(0) is more LOSS alone", x.lost(0), 0);
        DUE.is("lost(1)", x.lost(1), 3);
        x = Due.town("pw99;p");
        Due.hold(x, "y:0");
        x.begin(0, 1, 1);
        DUE.is("lost(59)", x.lost(59), 59);
        DUE.is("lost(60)", x.lost(60), 60);
        DUE.says("NONE: no TOWN, out of bounds");
        int[] refused = {-1, 61, LOW, FAR};
        for (int n : refused) {
            DUE.is("lost(" + n + ")", x.lost(n), -1);
        }
    }

    private static void left() {
        DUE.says("LEFT in a PLACE behind n HOURS: WORTH");
        BelievedOnce x = flooded();
        int[] first = {50, 47, 45, 44, 44};
        int[] last = {10, 1, 0, 0, 0};
        for (int n = 0; n < first.length; n++) {
            DUE.is("left(0, " + n + ")", x.left(0, n), first[n]);
            DUE.is("left(3, " + n + ")", x.left(3, n), last[n]);
        }
        DUE.is("left(1, 60)", x.left(1, 60), 30);
        x = Due.town("pw99;p");
        Due.hold(x, "y:0");
        x.begin(0, 1, 1);
        DUE.is("left(0, 60)", x.left(0, 60), 39);
        DUE.says("NONE: no such PLACE, out of bounds");
        int[] none = {-1, 2, 8, LOW, FAR};
        for (int spot : none) {
            DUE.is("left(" + spot + ", 1)", x.left(spot, 1), -1);
        }
        int[] refused = {-1, 61, LOW, FAR};
        for (int n : refused) {
            DUE.is("left(0, " + n + ")", x.left(0, n), -1);
        }
    }

    private static void saved() {
        DUE.says("SAVED by n (1 .. 60): LOST in n less what would be LOST in n, did he CRY now (CREDIT or not)");
        for (int credit = 3; credit >= 0; credit--) {
            BelievedOnce x = Due.town("se0;pw99;pw99");
            Due.hold(x, "y:0");
            x.begin(0, 2, 9);
            for (int c = 3; c > credit; c--) {
                x.whisper();
            }
            if (credit == 0) {
                x.begin(0, 2, 1);
            }
            x.begin(1, 1, 1);
            int size = credit == 0 ? 1 : 3 * credit;
            DUE.is("CREDIT", x.rule(3), credit);
            DUE.is("saved(1) with CREDIT " + credit, x.saved(1), size);
            DUE.is("saved(2)", x.saved(2), 2 * size);
            DUE.is("saved(60)", x.saved(60), Math.min(99, 60 * size));
            DUE.is("CREDIT stays", x.rule(3), credit);
            DUE.sizes("TROUBLES stay", x, size, 1);
        }
        DUE.says("SAVED (below 0: a cry is worse)");
        BelievedOnce x = Due.town("se0;pw50;pw50;l");
        Due.hold(x, "y:n=1?0-9;y:1");
        x.begin(0, 2, 1);
        x.begin(1, 1, 2);
        DUE.is("saved(1)", x.saved(1), 1);
        DUE.is("saved(2)", x.saved(2), 3 - 5);
        DUE.is("saved(3)", x.saved(3), 3 - 9);
        DUE.is("saved(1) of none", Due.town("p;p").saved(1), 0);
        DUE.says("HIDDEN: no TOWN, out of bounds");
        int[] refused = {0, 61, -1, LOW, FAR};
        for (int n : refused) {
            DUE.is("saved(" + n + ")", x.saved(n), HIDDEN);
        }
    }

    /** He SEES but the TROUBLE of 0; that of 1 grows when it is alone. */
    private static BelievedOnce betterLate() {
        BelievedOnce x = Due.town("se0;pw99;pw99;l");
        Due.hold(x, "y:n=0?9;y:0");
        x.begin(0, 2, 1);
        x.begin(1, 1, 1);
        return x;
    }

    private static void cryAt() {
        DUE.says("CRY AT for n (1 .. 24): the HOUR from now (0 .. n) at which to CRY (CREDIT or not)");
        BelievedOnce x = betterLate();
        DUE.is("cryAt(1, 0)", x.cryAt(1, 0), 0);
        DUE.is("cryAt(1, 1)", x.cryAt(1, 1), 1);
        DUE.is("cryAt(2, 0)", x.cryAt(2, 0), 1);
        DUE.is("cryAt(2, 1)", x.cryAt(2, 1), 3);
        DUE.is("cryAt(24, 0)", x.cryAt(24, 0), 23);
        DUE.is("cryAt(24, 1)", x.cryAt(24, 1), 23 * 2 + 1);
        x.cry();
        x.undo();
        x.whisper();
        x.begin(0, 2, 1);
        DUE.is("CREDIT", x.rule(3), 2);
        DUE.is("cryAt(24, 0)", x.cryAt(24, 0), 23);
        DUE.is("CREDIT stays", x.rule(3), 2);
        DUE.says("of several the first; at n it saves nothing");
        x = Due.town("se0;pw99;pw99");
        Due.hold(x, "y:0");
        DUE.is("cryAt(24, 0) of none", x.cryAt(24, 0), 0);
        DUE.is("cryAt(24, 1) of none", x.cryAt(24, 1), 0);
        x.begin(1, 1, 1);
        DUE.is("cryAt(24, 0) of what he SEES not", x.cryAt(24, 0), 0);
        DUE.is("cryAt(24, 1) of what he SEES not", x.cryAt(24, 1), 24);
        DUE.says("NONE: no TOWN, out of bounds, no such what");
        int[] refused = {0, 25, -1, LOW, FAR};
        for (int n : refused) {
            DUE.is("cryAt(" + n + ", 0)", x.cryAt(n, 0), -1);
            DUE.is("cryAt(" + n + ", 1)", x.cryAt(n, 1), -1);
        }
        int[] none = {-1, 2, LOW, FAR};
        for (int what : none) {
            DUE.is("cryAt(1, " + what + ")", x.cryAt(1, what), -1);
        }
    }

    private static void quiet() {
        DUE.says("QUIET: in how many HOURS (0 .. 99) there is no TROUBLE first");
        BelievedOnce x = Due.town("pw99;pw99");
        DUE.is("quiet() at once", x.quiet(), 0);
        x.begin(0, 2, 1);
        DUE.is("quiet()", x.quiet(), 1);
        x.begin(1, 2, 9);
        DUE.is("quiet()", x.quiet(), 9);
        x = Due.town("pw99;pw99");
        // 1 is taken each HOUR: 98 of WORTH are gone behind 98 HOURS.
        Due.hold(x, "y:w=1?0-9;y:0");
        x.begin(0, 1, 1);
        DUE.is("quiet()", x.quiet(), 98);
        Due.hold(x, "y:w=0?0-9;y:0");
        DUE.is("quiet()", x.quiet(), 99);
        DUE.says("NONE: not within 99, no TOWN");
        Due.hold(x, "y:w=0&h=3?0-9;y:0");
        DUE.is("quiet() behind 100", x.quiet(), -1);
        Due.hold(x, "y:0");
        DUE.is("quiet() never", x.quiet(), -1);
    }

    private static void behindTheLastHour() {
        DUE.says("HOURS go on behind 9,999");
        BelievedOnce x = Due.town("pw99;pw99;l");
        for (int i = 0; i < 166; i++) {
            x.hours(60);
        }
        DUE.is("hours(39)", x.hours(39), 9999);
        x.begin(0, 2, 3);
        DUE.is("lost(60)", x.lost(60), 6);
        DUE.is("left(0, 2)", x.left(0, 2), 94);
        DUE.is("saved(60)", x.saved(60), 6);
        DUE.is("cryAt(24, 0)", x.cryAt(24, 0), 0);
        DUE.is("cryAt(24, 1)", x.cryAt(24, 1), 0);
        DUE.is("quiet()", x.quiet(), 3);
        DUE.is("odds(1, 2, 8, 100)", x.odds(1, 2, 8, 100), ALL);
        DUE.is("odds(1, 2, 9, 100)", x.odds(1, 2, 9, 100), 0);
        DUE.is("the HOUR", x.count(4), 9999);
        // 9,999 is 15 behind the last whole day.
        Due.hold(x, "y:h=16?0-9;y:1");
        DUE.is("lost(60): the HOUR 10,000 is one of 16", x.lost(60), 3 + 4);
        DUE.is("quiet()", x.quiet(), 2);
    }

    private static void standsAndSaysNothing() {
        DUE.says("he stays where he stands and says nothing, where nothing else is told");
        BelievedOnce x = Due.town("pw99;pw99;pw99;l;la1b2");
        x.begin(2, 1, 1);
        DUE.is("lost(3) from 0", x.lost(3), 1 + 2 + 3);
        x.walk(1);
        DUE.is("lost(3) from 1", x.lost(3), 1);
        DUE.is("where he stands", x.rule(4), 1);
        x.walk(0);
        DUE.is("quiet() from 0", x.quiet(), -1);
    }

    private static void callBounds() {
        DUE.says("CALL with m (1 .. 40); NONE: no TOWN, out of bounds, no such what");
        BelievedOnce x = Due.town("pw99o1;pw1o1");
        int[] refused = {0, 41, -1, LOW, FAR};
        for (int m : refused) {
            DUE.is("call(" + m + ", 0)", x.call(m, 0), -1);
            DUE.is("call(" + m + ", 1)", x.call(m, 1), -1);
        }
        int[] none = {-1, 2, LOW, FAR};
        for (int what : none) {
            DUE.is("call(1, " + what + ")", x.call(1, what), -1);
        }
        int[] values = {50000, 74500, 86750, 92875, 95937, 97468, 98234};
        for (int m = 1; m <= values.length; m++) {
            DUE.is("call(" + m + ", 0)", x.call(m, 0), values[m - 1]);
        }
        // Half of what is missing to 99,000 goes each time; of 1 the half is cut.
        DUE.is("call(40, 0)", x.call(40, 0), 98999);
        DUE.is("call(40, 1)", x.call(40, 1), 1);
    }

    private static void callValues() {
        DUE.says("VALUE of none left is 0; .. by all ODDS together, cut (all ODDS 0: 0)");
        DUE.is("call(1, 0): 4,000 by 3", Due.town("pw1;pw1;pw2").call(1, 0), 1333);
        DUE.is("call(1, 0): 8,000 by 3", Due.town("pw1;pw1;pw6").call(1, 0), 2666);
        BelievedOnce x = Due.town("pw99o0;pw99o0;pw1o9");
        DUE.is("call(1, 0) by ODDS", x.call(1, 0), 1000);
        DUE.is("call(40, 0) by ODDS", x.call(40, 0), 1000);
        x = Due.town("pw7o1;pw99o0");
        DUE.is("call(1, 0): all ODDS together 1", x.call(1, 0), 7000);
        DUE.is("call(40, 0): all ODDS together 1", x.call(40, 0), 7000);
        x = Due.town("pw99o0;pw1o0");
        for (int m = 1; m <= 40; m += 13) {
            DUE.is("call(" + m + ", 0)", x.call(m, 0), 0);
            DUE.is("call(" + m + ", 1)", x.call(m, 1), 0);
        }
        x = Due.town("pw99o9;pw99o9;pw99o9;pw99o9;pw99o9;pw99o9;pw99o9;pw99o9");
        DUE.is("call(40, 0) of all that can be", x.call(40, 0), 99000);
        DUE.is("call(40, 1) of all that can be", x.call(40, 1), 255);
    }

    private static void heed() {
        DUE.says("HEED for m: PLACES with ODDS above 0 ..: 1,000 times WORTH is VALUE of one HOUR less or more");
        BelievedOnce x = Due.town("pw50;pw99;pw1;pw99o0");
        DUE.is("call(1, 0)", x.call(1, 0), 50000);
        DUE.is("call(1, 1)", x.call(1, 1), 7);
        DUE.is("call(2, 1): as much counts", x.call(2, 1), 3);
        DUE.is("call(2, 0)", x.call(2, 0), (50000 + 99000 + 50000) / 3);
        DUE.is("call(3, 1)", x.call(3, 1), 2);
        x = Due.town("pw51o1" + ";pw50o9".repeat(7));
        DUE.is("call(1, 0)", x.call(1, 0), (51000 + 63 * 50000) / 64);
        DUE.is("call(2, 1): 50,000 is less than 50,015", x.call(2, 1), 1);
        x = Due.town("pw49o1" + ";pw50o9".repeat(7));
        DUE.is("call(2, 1): 50,000 is more than 49,984", x.call(2, 1), 254);
        x = Due.town("pw9;pw9");
        x.begin(0, 2, 9);
        x.hours(1);
        DUE.is("call(1, 1): a ruin, when none is left", x.call(1, 1), 3);
        DUE.is("call(1, 0)", x.call(1, 0), 4500);
        DUE.is("call(2, 1)", x.call(2, 1), 2);
    }

    private static void roundBounds() {
        DUE.says("ROUND of m (1 .. 5); NONE: nothing beside where he stands, no TOWN, out of bounds, no such what");
        BelievedOnce x = Due.town("p;p;l");
        int[] rows = {1, 10, 101, 1010, 10101};
        for (int m = 1; m <= 5; m++) {
            DUE.is("round(" + m + ", 0)", x.round(m, 0), rows[m - 1]);
            DUE.is("round(" + m + ", 1)", x.round(m, 1), 40);
        }
        int[] refused = {0, 6, -1, LOW, FAR};
        for (int m : refused) {
            DUE.is("round(" + m + ", 0)", x.round(m, 0), -1);
            DUE.is("round(" + m + ", 1)", x.round(m, 1), -1);
        }
        int[] none = {-1, 2, LOW, FAR};
        for (int what : none) {
            DUE.is("round(1, " + what + ")", x.round(1, what), -1);
        }
        x = Due.town("p;p;p;la1b2");
        for (int m = 1; m <= 5; m++) {
            DUE.is("round(" + m + ", 0) with nothing beside", x.round(m, 0), -1);
            DUE.is("round(" + m + ", 1) with nothing beside", x.round(m, 1), -1);
        }
    }

    private static void roundRows() {
        DUE.says("the row (digits of the PLACES walked to, the first the highest) .. (of several the least row)");
        BelievedOnce x = Due.town("se0;" + ROW_OF_EIGHT);
        DUE.is("round(5, 0)", x.round(5, 0), 12345);
        DUE.is("round(5, 1)", x.round(5, 1), 120);
        x.walk(1);
        DUE.is("round(1, 0): a row of 0", x.round(1, 0), 0);
        DUE.is("round(1, 1)", x.round(1, 1), 40);
        DUE.is("round(2, 0)", x.round(2, 0), 23);
        DUE.is("round(3, 0)", x.round(3, 0), 234);
        x = Due.town("se0;pw5;pw9;pw9;pw9;la0b3;la0b2;la0b1");
        DUE.is("round(1, 0): the least of three", x.round(1, 0), 1);
        DUE.is("round(3, 0)", x.round(3, 0), 102);
        DUE.is("round(5, 0)", x.round(5, 0), 10203);
        DUE.is("round(5, 1)", x.round(5, 1), 32);
        DUE.says("all PLACES that he SEES on it (from where he stands now, too; each once)");
        x = Due.town("se1;pw1;pw2;pw4;pw8;pw16;l;la1b2;la2b3;la3b4");
        DUE.is("round(1, 1)", x.round(1, 1), 7);
        DUE.is("round(2, 1)", x.round(2, 1), 15);
        DUE.is("round(3, 1)", x.round(3, 1), 31);
        DUE.is("round(4, 1): each once", x.round(4, 1), 31);
        DUE.is("round(4, 0)", x.round(4, 0), 1232);
        x = Due.town("pw1;pw1;l");
        x.begin(0, 2, 1);
        x.begin(1, 2, 1);
        x.walk(1);
        x.hours(1);
        DUE.is("round(2, 1) of ruins", x.round(2, 1), 0);
        DUE.is("round(2, 0) of ruins", x.round(2, 0), 1);
    }

    private static void covers() {
        DUE.says("COVER: the fewest PLACES (bits; of several the least) from which, taken together, all are SEEN");
        DUE.is("cover() with e0", Due.town("se0;p;p;p;p;p;p;p;p;l").cover(), 255);
        DUE.is("cover() of a row, e1", Due.town("se1;" + ROW_OF_EIGHT).cover(), 1 + 8 + 64);
        DUE.is("cover() of a row, e2", Due.town("se2;" + ROW_OF_EIGHT).cover(), 1 + 32);
        DUE.is("cover() of a row, e3", Due.town("se3;" + ROW_OF_EIGHT).cover(), 1 + 16);
        DUE.is("cover() of a row, e4", Due.town("se4;" + ROW_OF_EIGHT).cover(), 8);
        DUE.is("cover() of a ring of four", Due.town("p;p;p;p;l;la1b2;la2b3;la3b0").cover(), 3);
        DUE.is("cover() of a ring of six", Due.town("p;p;p;p;p;p;l;la1b2;la2b3;la3b4;la4b5;la5b0").cover(), 9);
        DUE.is("cover(): fewer go ahead of less", Due.town("p;p;p;p;la3b0;la3b1;la3b2").cover(), 8);
        DUE.is("cover() of two", Due.town("p;p;l").cover(), 1);
        DUE.is("cover() of two without a LANE", Due.town("se4;p;p").cover(), 3);
    }

    private static void farthest() {
        DUE.says("FARTHEST: the PLACE most STEPS off him (of several the lowest)");
        BelievedOnce x = Due.town("sg5;" + ROW_OF_EIGHT);
        DUE.is("from 0", x.most(3), 7);
        x.walk(1);
        x.walk(2);
        x.walk(3);
        DUE.is("from 3", x.most(3), 7);
        x.walk(4);
        DUE.is("from 4", x.most(3), 0);
        DUE.is("no way is farther", Due.town("p;p;p;p;l;la1b3").most(3), 2);
        DUE.is("the lowest of two without a way", Due.town("p;p;p;p;lb2").most(3), 1);
        DUE.is("the lowest of two", Due.town("p;p;p;l;lb2").most(3), 1);
    }

    private static void seenBounds() {
        DUE.says("WORTH was v (0 .. 99) or more behind n (1 .. 20) HOURS; NONE: no such PLACE, out of bounds");
        BelievedOnce x = Due.town("pw20;pw20");
        int[] spots = {-1, 2, 8, LOW, FAR};
        for (int spot : spots) {
            DUE.is("seen in " + spot, x.seen(spot, 1, 1, true), -1);
        }
        int[] hours = {0, 21, -1, LOW, FAR};
        for (int n : hours) {
            DUE.is("seen behind " + n, x.seen(0, n, 1, true), -1);
        }
        int[] marks = {-1, 100, LOW, FAR};
        for (int v : marks) {
            DUE.is("seen of " + v, x.seen(0, 1, v, false), -1);
        }
        DUE.is("count(6)", x.count(6), 0);
        DUE.is("fits(NONE)", x.fits(-1), 54);
        DUE.is("seen(0, 1, 0, true)", x.seen(0, 1, 0, true), 1);
        DUE.is("seen(1, 20, 99, false)", x.seen(1, 20, 99, false), 2);
        DUE.is("fits(NONE)", x.fits(-1), 54);
    }

    private static void tenSeen() {
        DUE.says("SEEN (10 at most); NONE: .. there are ten");
        BelievedOnce x = Due.town("pw20;pw20");
        for (int i = 1; i <= 9; i++) {
            DUE.is("seen", x.seen(0, 1, 0, true), i);
        }
        DUE.is("the tenth", x.seen(0, 1, 20, true), 10);
        DUE.is("fits(NONE)", x.fits(-1), 27);
        DUE.is("the 11th", x.seen(1, 1, 20, true), -1);
        DUE.is("count(6)", x.count(6), 10);
        DUE.is("fits(NONE)", x.fits(-1), 27);
    }

    private static int fitting(String town, String law, int spot, int n, int v, boolean more) {
        BelievedOnce x = Due.town(town);
        if (!law.isEmpty()) {
            Due.hold(x, law);
        }
        x.seen(spot, n, v, more);
        return x.fits(-1);
    }

    private static void seenMarks() {
        DUE.says("in a PLACE WORTH was v or more .., or less");
        String two = "pw20;pw20";
        DUE.is("20 or more", fitting(two, "", 0, 1, 20, true), 27);
        DUE.is("less than 20", fitting(two, "", 0, 1, 20, false), 27);
        DUE.is("21 or more", fitting(two, "", 0, 1, 21, true), 0);
        DUE.is("less than 21", fitting(two, "", 0, 1, 21, false), 54);
        DUE.is("19 or more", fitting(two, "", 0, 1, 19, true), 30);
        DUE.is("11 or more", fitting(two, "", 0, 1, 11, true), 54);
        DUE.is("12 or more", fitting(two, "", 0, 1, 12, true), 51);
        DUE.is("less than 12", fitting(two, "", 0, 1, 12, false), 3);
        DUE.is("less than 11", fitting(two, "", 0, 1, 11, false), 0);
        DUE.is("less than 0", fitting(two, "", 0, 1, 0, false), 0);
        DUE.is("0 or more", fitting(two, "", 1, 20, 0, true), 54);
        DUE.says("behind n (1 .. 20) HOURS");
        two = "pw99;pw99";
        DUE.is("99 less 20 is 79", fitting(two, "y:0", 0, 20, 79, true), 30);
        DUE.is("less than 79", fitting(two, "y:0", 0, 20, 79, false), 24);
        DUE.is("80 or more", fitting(two, "y:0", 0, 20, 80, true), 27);
        DUE.is("99 less 19 is 80", fitting(two, "y:0", 0, 19, 80, true), 30);
        DUE.is("of 5 nothing is left", fitting(two, "y:0", 0, 20, 1, false), 15);
        DUE.is("of 5 there is something", fitting(two, "y:0", 0, 19, 1, false), 12);
    }

    private static void fits() {
        DUE.says("FITS: TROUBLES (100 times the PLACE, 10 times the KIND, SIZE): how many (i NONE), the i-th (rising)");
        BelievedOnce x = Due.town("p;p;p;p;p;p;p;p");
        DUE.is("fits(NONE)", x.fits(-1), 8 * 27);
        int i = 0;
        for (int spot = 0; spot < 8; spot++) {
            for (int kind = 0; kind < 3; kind++) {
                for (int size = 1; size <= 9; size++) {
                    DUE.is("fits(" + i + ")", x.fits(i), 100 * spot + 10 * kind + size);
                    i++;
                }
            }
        }
        DUE.says("FITS .. NONE: no such one, no TOWN");
        int[] none = {8 * 27, -2, LOW, FAR};
        for (int wrong : none) {
            DUE.is("fits(" + wrong + ")", x.fits(wrong), -1);
        }
        x.seen(7, 1, 12, false);
        DUE.is("fits(NONE)", x.fits(-1), 3);
        int[] want = {709, 719, 729, -1};
        for (int j = 0; j < want.length; j++) {
            DUE.is("fits(" + j + ")", x.fits(j), want[j]);
        }
        x.seen(7, 1, 12, true);
        DUE.is("fits(NONE) of none", x.fits(-1), 0);
        DUE.is("fits(0) of none", x.fits(0), -1);
    }

    private static void asTold() {
        DUE.says("in the TOWN as told (HOUR 0, he at PLACE 0), one TROUBLE began unknown");
        BelievedOnce x = Due.town("pw30;pw30;pw30;l;la1b2");
        Due.hold(x, "y:h=0&d=2?5;y:0");
        x.seen(2, 2, 22, false);
        // In 2 a SIZE of 2 takes 2 and 7, one of 1 takes 1 and 6.
        DUE.is("fits(NONE): all in 2 but those of 1", x.fits(-1), 24);
        DUE.is("fits(0)", x.fits(0), 202);
        x.begin(0, 0, 9);
        x.begin(1, 1, 9);
        x.walk(1);
        x.hours(3);
        DUE.is("fits(NONE) later", x.fits(-1), 24);
        DUE.is("fits(0) later", x.fits(0), 202);
    }

    private static void ask() {
        DUE.says("ASK of a PLACE: the n (1 .. 12) behind which the most .. are fewest (of several the least)");
        DUE.is("behind 12", asked("y:h=10&k=1?1;y:0"), 12);
        DUE.is("behind 11", asked("y:h=9&k=1?1;y:0"), 11);
        DUE.is("behind 13 is too late: the least", asked("y:h=11&k=1?1;y:0"), 1);
        DUE.is("behind 2", asked("y:h=0&k=1?1;y:0"), 2);
        DUE.is("behind 7 better than 3", asked("y:h=1&k=1?1;y:h=5&k=2?1;y:0"), 7);
        BelievedOnce x = Due.town("pw5;p");
        Due.hold(x, "y:0");
        x.seen(0, 1, 5, false);
        DUE.is("15 leave nothing behind 1, more later", x.ask(0), 1);
        DUE.is("27 leave nothing behind 1, more later", Due.town("pw1;pw99;l").ask(0), 1);
        DUE.is("of the last of eight", Due.town("p;p;p;p;p;p;p;p").ask(7), 1);
        evenlyAsked();
        x = Due.town("pw99;pw99");
        x.seen(0, 1, 99, false);
        DUE.is("of the other PLACE", x.ask(1), 1);
        DUE.says("NONE: nothing fits, no such PLACE");
        int[] none = {-1, 2, 8, LOW, FAR};
        for (int spot : none) {
            DUE.is("ask(" + spot + ")", x.ask(spot), -1);
        }
        x.seen(0, 1, 99, true);
        DUE.is("ask(0) when nothing fits", x.ask(0), -1);
        DUE.is("ask(1) when nothing fits", x.ask(1), -1);
    }

    /** SIZES 1 and 2 fit: behind 1 the six in PLACE 1 leave 0 as it was, behind 2 the six in 0 leave nothing. */
    private static void evenlyAsked() {
        BelievedOnce x = Due.town("pw3;pw99;l");
        Due.hold(x, "y:k=0&d=1?9;y:d=0?1");
        x.seen(0, 1, 1, true);
        x.seen(1, 1, 97, true);
        DUE.is("fits(NONE)", x.fits(-1), 12);
        DUE.is("six behind 1, six behind 2", x.ask(0), 1);
    }

    /** When three TROUBLES of 1 in PLACE 0 are left, one of each KIND. */
    private static int asked(String law) {
        BelievedOnce x = Due.town("pw99;pw99");
        Due.hold(x, law);
        x.seen(0, 1, 99, false);
        x.seen(0, 1, 98, true);
        DUE.is("fits(NONE)", x.fits(-1), 3);
        return x.ask(0);
    }

    private static void game() {
        DUE.says("the thief: there alone, WORTH of that PLACE by 10, cut, and 1; else -3");
        BelievedOnce x = Due.town("pw9;pw10;pw99;pw19;l;la1b2");
        DUE.is("by 9", x.game(0, 1, 1, 0, 1), 1);
        DUE.is("by 10", x.game(0, 1, 0, 1, 1), 2);
        DUE.is("by 99", x.game(1, 2, 0, 1, 1), 10);
        DUE.is("by 19", x.game(3, 2, 1, 0, 1), 2);
        DUE.is("not alone", x.game(2, 1, 0, 0, 1), -3);
        DUE.is("not alone", x.game(2, 1, 1, 1, 1), -3);
        DUE.says("he: 0 less what the thief has, less STEPS from where he stands to where he goes");
        DUE.is("he at 1, the thief at 0", x.game(0, 1, 1, 0, 0), -1 - 1);
        DUE.is("he at 1, the thief at 2", x.game(1, 2, 0, 1, 0), -10 - 1);
        DUE.is("both at 2", x.game(1, 2, 1, 1, 0), 3 - 2);
        DUE.is("both at 0", x.game(0, 1, 0, 0, 0), 3);
        DUE.is("he where there is no way", x.game(0, 3, 1, 0, 0), -1 - 99);
        DUE.says("HIDDEN: no such PLACES, alike, out of bounds");
        int[] spots = {-1, 4, 8, LOW, FAR};
        for (int spot : spots) {
            DUE.is("game(" + spot + ", 0, ..)", x.game(spot, 0, 0, 0, 0), HIDDEN);
            DUE.is("game(0, " + spot + ", ..)", x.game(0, spot, 0, 0, 0), HIDDEN);
            DUE.is("game of both", x.game(spot, spot, 0, 0, 0), HIDDEN);
        }
        for (int p = 0; p < 4; p++) {
            DUE.is("alike", x.game(p, p, 0, 1, 0), HIDDEN);
        }
        int[] wrong = {-1, 2, LOW, FAR};
        for (int w : wrong) {
            DUE.is("x " + w, x.game(0, 1, w, 0, 0), HIDDEN);
            DUE.is("y " + w, x.game(0, 1, 0, w, 0), HIDDEN);
            DUE.is("what " + w, x.game(0, 1, 0, 0, w), HIDDEN);
        }
    }

    private static void rests() {
        DUE.says("RESTS: 10 times x and y by which neither has more by another ..: how many, the i-th (rising)");
        BelievedOnce x = Due.town("p;p;p;p;pw9;pw10;l;la1b2;la2b3;la3b4;la3b5");
        DUE.is("as much by another is not more", x.rests(0, 4, -1), 1);
        DUE.is("rests(0, 4, 0)", x.rests(0, 4, 0), 1);
        DUE.is("rests(4, 0, 0)", x.rests(4, 0, 0), 10);
        DUE.is("1 more by another", x.rests(0, 5, -1), 0);
        DUE.is("near ones", x.rests(0, 1, -1), 0);
        DUE.says("NONE: no such one, no such PLACES, alike");
        int[] none = {1, -2, LOW, FAR};
        for (int i : none) {
            DUE.is("rests(0, 4, " + i + ")", x.rests(0, 4, i), -1);
        }
        DUE.is("rests(0, 5, 0) of none", x.rests(0, 5, 0), -1);
        int[] spots = {-1, 6, 8, LOW, FAR};
        for (int spot : spots) {
            DUE.is("rests(" + spot + ", 0, NONE)", x.rests(spot, 0, -1), -1);
            DUE.is("rests(0, " + spot + ", NONE)", x.rests(0, spot, -1), -1);
            DUE.is("rests of both", x.rests(spot, spot, -1), -1);
        }
        for (int p = 0; p < 6; p++) {
            DUE.is("alike", x.rests(p, p, -1), -1);
            DUE.is("alike", x.rests(p, p, 0), -1);
        }
    }

    private static void oddsBounds() {
        DUE.says("ODDS of a PLACE for n (0 .. 6) HOURS, v (0 .. 999) and a chance (0 .. 100)");
        BelievedOnce x = Due.town("pw50;pw50");
        for (int chance = 0; chance <= 100; chance += 25) {
            DUE.is("none of 0 HOURS", x.odds(0, 0, 0, chance), ALL);
            DUE.is("1 of 0 HOURS", x.odds(0, 0, 1, chance), 0);
            DUE.is("0 of 6 HOURS", x.odds(0, 6, 0, chance), ALL);
        }
        DUE.is("odds(1, 6, 21, 100)", x.odds(1, 6, 21, 100), ALL);
        DUE.is("odds(1, 6, 22, 100)", x.odds(1, 6, 22, 100), 0);
        DUE.is("odds(1, 6, 999, 100)", x.odds(1, 6, 999, 100), 0);
        DUE.is("odds(1, 6, 1, 0)", x.odds(1, 6, 1, 0), 0);
        DUE.says("ODDS. NONE: no such PLACE, out of bounds");
        int[] spots = {-1, 2, 8, LOW, FAR};
        for (int spot : spots) {
            DUE.is("odds of " + spot, x.odds(spot, 1, 1, 1), -1);
        }
        int[][] wrong = {{-1, 7, LOW, FAR}, {-1, 1000, LOW, FAR}, {-1, 101, LOW, FAR}};
        for (int i = 0; i < 4; i++) {
            DUE.is("n " + wrong[0][i], x.odds(0, wrong[0][i], 1, 1), -1);
            DUE.is("v " + wrong[1][i], x.odds(0, 1, wrong[1][i], 1), -1);
            DUE.is("chance " + wrong[2][i], x.odds(0, 1, 1, wrong[2][i]), -1);
        }
    }

    private static void oddsParts() {
        DUE.says("of 10 to the 9 parts ..: v or more (of each part chance 100ths, cut, with a fire)");
        BelievedOnce x = Due.town("pw50;pw50");
        DUE.is("odds(0, 1, 1, 1)", x.odds(0, 1, 1, 1), 10000000);
        DUE.is("odds(0, 1, 1, 99)", x.odds(0, 1, 1, 99), 990000000);
        // Without a fire: 990000000, 980100000, 970299000, 960596010, 950990050 (.1 cut), 941480150 (.5 cut).
        DUE.is("odds(0, 4, 1, 1)", x.odds(0, 4, 1, 1), ALL - 960596010);
        DUE.is("odds(0, 5, 1, 1)", x.odds(0, 5, 1, 1), ALL - 950990050);
        DUE.is("odds(0, 6, 1, 1)", x.odds(0, 6, 1, 1), ALL - 941480150);
        // Without a fire: 10000000, 100000, 1000, 10, 1 (9.9 with a fire cut to 9), 1 (.99 cut to 0).
        DUE.is("odds(0, 4, 1, 99)", x.odds(0, 4, 1, 99), ALL - 10);
        DUE.is("odds(0, 5, 1, 99)", x.odds(0, 5, 1, 99), ALL - 1);
        DUE.is("odds(0, 6, 1, 99)", x.odds(0, 6, 1, 99), ALL - 1);
        DUE.is("odds(0, 6, 0, 99): the last part counts", x.odds(0, 6, 0, 99), ALL);
        // Each fire takes 1 and is over: LOST is how many there were.
        Due.hold(x, "y:0-1");
        // With a fire each HOUR: 330000000, 108900000, 35937000, 11859210, 3913539 (.3 cut), 1291467 (.87 cut).
        DUE.is("odds(0, 5, 5, 33)", x.odds(0, 5, 5, 33), 3913539);
        DUE.is("odds(0, 6, 6, 33)", x.odds(0, 6, 6, 33), 1291467);
        DUE.is("odds(0, 6, 7, 33)", x.odds(0, 6, 7, 33), 0);
        DUE.is("odds(0, 6, 6, 50)", x.odds(0, 6, 6, 50), 15625000);
        DUE.is("odds(0, 6, 5, 50)", x.odds(0, 6, 5, 50), 7 * 15625000);
        DUE.is("odds(0, 6, 1, 50)", x.odds(0, 6, 1, 50), 63 * 15625000);
        DUE.is("odds(0, 6, 6, 100)", x.odds(0, 6, 6, 100), ALL);
        DUE.is("odds(0, 6, 7, 100)", x.odds(0, 6, 7, 100), 0);
    }

    private static void oddsFires() {
        DUE.says("ahead of each HOUR by chance a fire of 1 begins in it (if it has no TROUBLE)");
        BelievedOnce x = Due.town("pw50;pw50;pw1");
        x.begin(0, 2, 1);
        DUE.is("a flood of 1 goes on", x.odds(0, 1, 1, 100), ALL);
        DUE.is("a flood of 1 goes on", x.odds(0, 1, 2, 100), 0);
        DUE.is("a fire behind it", x.odds(0, 2, 2, 100), ALL);
        DUE.is("a fire behind it", x.odds(0, 2, 3, 100), 0);
        DUE.is("a fire in another PLACE", x.odds(1, 2, 4, 100), ALL);
        DUE.is("a fire in another PLACE", x.odds(1, 2, 5, 100), 0);
        DUE.is("a fire in a ruin takes nothing more", x.odds(2, 6, 2, 100), ALL);
        DUE.is("a fire in a ruin takes nothing more", x.odds(2, 6, 3, 100), 0);
        DUE.is("nothing begins", x.most(6), 0);
    }

    private static void shares() {
        DUE.says("SHARES of c (0 .. 999) by WORTH: for a PLACE c times its by that of all, cut (none: 0)");
        BelievedOnce x = Due.town("pw1;pw2;pw4");
        DUE.is("shares(0, 0)", x.shares(0, 0), 0);
        DUE.is("shares(0, 6)", x.shares(0, 6), 0);
        DUE.is("shares(0, 7)", x.shares(0, 7), 1);
        DUE.is("shares(1, 10)", x.shares(1, 10), 2);
        DUE.is("shares(2, 999)", x.shares(2, 999), 570);
        x.begin(2, 2, 1);
        x.hours(1);
        DUE.is("shares(2, 6) by WORTH as now", x.shares(2, 6), 3);
        for (int p = 0; p < 3; p++) {
            x.begin(p, 2, 9);
        }
        x.hours(1);
        DUE.is("shares(2, 999) of none", x.shares(2, 999), 0);
        DUE.is("shares(2, 0) of none", x.shares(2, 0), 0);
        DUE.says("SHARES. NONE: no such PLACE, out of bounds");
        int[] spots = {-1, 3, 8, LOW, FAR};
        for (int spot : spots) {
            DUE.is("shares(" + spot + ", 1)", x.shares(spot, 1), -1);
        }
        int[] refused = {-1, 1000, LOW, FAR};
        for (int c : refused) {
            DUE.is("shares(0, " + c + ")", x.shares(0, c), -1);
        }
    }

    private static void ofSeveral() {
        DUE.says("DEAREST: the PLACE with most WORTH .. (of several the lowest, all)");
        DUE.is("most(0)", Due.town("pw8;pw9;pw9;pw1").most(0), 1);
        DUE.is("most(0) of alike", Due.town("p;p;p").most(0), 0);
        DUE.is("most(0), the last", Due.town("pw8;pw9;pw10").most(0), 2);
        BelievedOnce x = Due.town("pw8;pw9;pw10");
        x.begin(2, 2, 2);
        x.hours(1);
        DUE.is("most(0) by WORTH as now", x.most(0), 1);
        x.begin(1, 2, 1);
        x.hours(1);
        DUE.is("most(0), now alike", x.most(0), 0);
        DUE.says("LIKELIEST: with most ODDS");
        DUE.is("most(1)", Due.town("po8;po9;po9;po1").most(1), 1);
        DUE.is("most(1) of alike", Due.town("po0;po0").most(1), 0);
        DUE.is("most(1), the last", Due.town("po0;po0;po1").most(1), 2);
        DUE.says("BUSIEST: with most LANES, each once");
        DUE.is("most(2) of none", Due.town("p;p;p").most(2), 0);
        for (int e = 0; e <= 4; e++) {
            String sees = "se" + e + ";";
            DUE.is("most(2) with e" + e, Due.town(sees + "p;p;p;p;la1b2;la2b3;la3b1").most(2), 1);
            DUE.is("most(2) with e" + e, Due.town(sees + "p;p;p;p;l;la1b2;la2b3;la2b0").most(2), 2);
        }
        DUE.is("most(2), each once", Due.town("p;p;p;p;l;la1b0;l;la2b3;la3b1").most(2), 1);
        DUE.is("most(2), each once", Due.town("p;p;p;p;p;l;l;l;la2b3;la4b3").most(2), 3);
        DUE.says("NONE: no TOWN, no such what");
        int[] none = {-1, 13, LOW, FAR};
        for (int what : none) {
            DUE.is("most(" + what + ")", Due.town("p;p").most(what), -1);
        }
    }

    private static void bits() {
        DUE.says("TROUBLES, SEEN NOW, FIRES, THIEVES, FLOODS, RUINS (without WORTH): PLACES (bits)");
        BelievedOnce x = Due.town("p;p;p;p;p;p;p;pw1");
        for (int what = 4; what <= 9; what++) {
            DUE.is("most(" + what + ") of none", x.most(what), what == 5 ? 1 : 0);
        }
        for (int p = 0; p < 8; p++) {
            x.begin(p, p % 3, 1);
        }
        DUE.is("TROUBLES", x.most(4), 255);
        DUE.is("FIRES", x.most(6), 1 + 8 + 64);
        DUE.is("THIEVES", x.most(7), 2 + 16 + 128);
        DUE.is("FLOODS", x.most(8), 4 + 32);
        x.hours(1);
        DUE.is("TROUBLES", x.most(4), 255 - 4 - 32);
        DUE.is("FLOODS", x.most(8), 0);
        DUE.is("RUINS", x.most(9), 128);
        DUE.says("ALL: WORTH of all together");
        DUE.is("most(11)", x.most(11), 7 * 20 - 7);
        DUE.is("most(11)", Due.town("pw99;pw99;pw99;pw99;pw99;pw99;pw99;pw99").most(11), 792);
    }

    private static void worst() {
        DUE.says("WORST: the PLACE with the TROUBLE of most SIZE (of several the lowest; none: NONE)");
        BelievedOnce x = Due.town("p;p;p;p");
        DUE.is("most(10) of none", x.most(10), -1);
        x.begin(3, 2, 1);
        DUE.is("most(10) of one", x.most(10), 3);
        x.begin(2, 1, 9);
        DUE.is("most(10)", x.most(10), 2);
        x.begin(1, 2, 9);
        DUE.is("most(10) of several", x.most(10), 1);
        x.begin(0, 2, 8);
        DUE.is("most(10)", x.most(10), 1);
    }

    private static void parts() {
        DUE.says("PARTS: how many there are of PLACES that can come to one another");
        DUE.is("eight alone", Due.town("p;p;p;p;p;p;p;p").most(12), 8);
        DUE.is("a row of eight", Due.town(ROW_OF_EIGHT).most(12), 1);
        DUE.is("pairs", Due.town("p;p;p;p;la0b3;la1b2").most(12), 2);
        DUE.is("by the last", Due.town("p;p;p;p;la0b3;la1b3").most(12), 2);
        DUE.is("two", Due.town("p;p").most(12), 2);
        DUE.is("two with a LANE", Due.town("p;p;l").most(12), 1);
    }
}
