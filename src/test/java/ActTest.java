/** Promises 1 and 6 to 21, 38 to 40: what is told of a TOWN, HOURS, ACTS, STATUS, LOG, IMAGES. */
public final class ActTest {
    private static final Due DUE = new Due();
    private static final String LINE = "sg2e1k9;pw50o3;pw30;pw20o0;pw10;l;la1b2";

    public static void main(String[] args) {
        newObject();
        tellings();
        lawsAndDanger();
        troublesGrow();
        firesSpread();
        lawLetters();
        lawArithmetic();
        lawTruths();
        walks();
        cries();
        whispers();
        heirs();
        beginnings();
        gifts();
        lastHour();
        years();
        undone();
        logs();
        images();
        DUE.close("ActTest");
    }

    private static void newObject() {
        BelievedOnce x = new BelievedOnce();
        DUE.counts("new", x, 0, 0, 0, -1, 0, 2, 0, 0, 0);
        DUE.is("count(9)", x.count(9), -1000000);
        DUE.is("count(-1)", x.count(-1), -1000000);
        DUE.noSuchSpot(x, 0, 0);
        DUE.is("rule(3)", x.rule(3), -1);
        DUE.is("steps(0, 0)", x.steps(0, 0), -1);
        DUE.is("shares(0, 1)", x.shares(0, 1), -1);
        DUE.is("seen", x.seen(0, 1, 1, true), -1);
        DUE.is("ask(0)", x.ask(0), -1);
        DUE.is("most(4)", x.most(4), -1);
        DUE.is("status(-1)", x.status(-1), -1);
        DUE.is("status(5)", x.status(5), -1);
        DUE.is("years", x.years(1, 5), -1);
        DUE.is("undo", x.undo(), -1);
        DUE.statuses("new", x, 0, 0, 0, 0, 0);
    }

    private static void tellings() {
        BelievedOnce x = Due.town("sg5e4k99;pw99o9;po0;pw1;l;lb0a1;l;la1b2");
        int[] rules = {5, 4, 99, 3, 0, 0};
        for (int i = 0; i < 6; i++) {
            DUE.is("rule(" + i + ")", x.rule(i), rules[i]);
        }
        DUE.is("rule(-1)", x.rule(-1), -1);
        DUE.is("rule(6)", x.rule(6), -1);
        int[][] spots = {{99, 9, -1, 0, 2}, {20, 0, -1, 0, 5}, {1, 1, -1, 0, 2}};
        for (int p = 0; p < 3; p++) {
            for (int i = 0; i < 5; i++) {
                DUE.is("spot(" + p + ", " + i + ")", x.spot(p, i), spots[p][i]);
            }
        }
        DUE.noSuchSpot(x, 3, 0);
        DUE.noSuchSpot(x, -1, 0);
        DUE.noSuchSpot(x, 0, -1);
        DUE.noSuchSpot(x, 0, 5);
        DUE.is("steps(0, 2)", x.steps(0, 2), 2);
        DUE.is("steps(2, 0)", x.steps(2, 0), 2);
        DUE.is("steps(1, 1)", x.steps(1, 1), 0);
        DUE.is("steps(3, 0)", x.steps(3, 0), -1);
        DUE.is("steps(0, -1)", x.steps(0, -1), -1);
        x = Due.town("p;p;p;p;p;p;p;p;la0b2;la2b4;la4b6;la6b1;la1b3;la3b5;la5b7");
        DUE.is("steps along a row of eight", x.steps(0, 7), 7);
        x = Due.town("p;p;p;p;p;p;p;p;la0b2;la2b4;la4b6;la6b1;la1b3;la3b5;la5b7;la7b0");
        DUE.is("steps along a ring of eight", x.steps(0, 1), 4);
        DUE.is("steps along a ring of eight", x.steps(0, 5), 2);
    }

    private static void lawsAndDanger() {
        BelievedOnce x = new BelievedOnce();
        DUE.is("law(0)", x.law(0), false);
        DUE.is("law(NONE)", x.law(-1), true);
        DUE.is("law(-2)", x.law(-2), false);
        Due.hold(x, "y:1");
        DUE.is("count(3)", x.count(3), 0);
        DUE.is("law(0) again", x.law(0), true);
        DUE.is("law(1)", x.law(1), false);
        DUE.is("count(3)", x.count(3), 0);
        DUE.is("law(NONE)", x.law(-1), true);
        DUE.is("count(3)", x.count(3), -1);
        DUE.is("danger(2)", x.danger(2), false);
        DUE.is("danger(10)", x.danger(10), false);
        DUE.is("danger(-1)", x.danger(-1), false);
        DUE.is("danger(9)", x.danger(9), true);
        DUE.is("danger(9)", x.danger(9), false);
        DUE.is("count(5)", x.count(5), 9);
        DUE.is("danger(0)", x.danger(0), true);
        DUE.is("count(5)", x.count(5), 0);
        DUE.statuses("laws and danger", x, 0, 0, 0, 0, 0);
    }

    private static void troublesGrow() {
        BelievedOnce x = Due.town("pw3;pw50;pw50;pw9;l;la1b2;la2b3");
        x.begin(0, 0, 2);
        x.begin(1, 1, 4);
        x.begin(2, 1, 8);
        x.begin(3, 2, 3);
        DUE.is("hours(1)", x.hours(1), 1);
        DUE.sizes("hour 1", x, 3, 3, 9, 2);
        DUE.worths("hour 1", x, 1, 46, 42, 6);
        x.hours(1);
        DUE.sizes("hour 2", x, 2, 2, 9, 1);
        DUE.worths("hour 2", x, 0, 43, 33, 4);
        x.hours(1);
        DUE.sizes("hour 3", x, 1, 1, 9, 0);
        DUE.worths("hour 3", x, 0, 41, 24, 3);
        DUE.is("kind of none", x.spot(3, 2), -1);
        DUE.is("kind", x.spot(2, 2), 1);
        x.hours(3);
        DUE.sizes("hour 6", x, 0, 0, 9, 0);
        DUE.worths("hour 6", x, 0, 40, 0, 3);
        DUE.is("LOSS", x.rule(5), 3 + 10 + 50 + 6);
    }

    private static void firesSpread() {
        BelievedOnce x = Due.town("pw90;pw9;pw9;pw1;pw9;l;la1b2;la0b3;la0b4");
        x.begin(3, 0, 1);
        x.hours(2);
        DUE.worths("ruin", x, 90, 9, 9, 0, 9);
        DUE.is("over without WORTH", x.spot(3, 3), 0);
        x.begin(0, 0, 4);
        x.begin(4, 2, 1);
        x.hours(1);
        DUE.sizes("a fire of 5 spreads, also where a flood ended, not to a ruin or farther", x, 5, 1, 0, 0, 1);
        DUE.is("kind", x.spot(4, 2), 0);
        DUE.worths("spreading takes nothing yet", x, 86, 9, 9, 0, 8);
        x = Due.town("pw90;pw90;pw90;l;lb2");
        x.begin(0, 1, 9);
        x.begin(1, 0, 3);
        x.begin(2, 2, 9);
        x.hours(1);
        DUE.sizes("thieves, floods and fires of 4 do not spread", x, 8, 4, 8);
        x.cry();
        x.begin(1, 0, 4);
        x.begin(0, 2, 2);
        x.hours(1);
        DUE.sizes("no spreading to where a TROUBLE is", x, 1, 5, 0);
        DUE.is("kind stays", x.spot(0, 2), 2);
    }

    private static int grown(String law, int kind, int size) {
        BelievedOnce x = Due.town(LINE);
        Due.hold(x, law);
        x.begin(1, kind, size);
        x.begin(0, 2, 1);
        x.hours(1);
        return x.spot(1, 3);
    }

    private static void lawLetters() {
        DUE.is("z", grown("y:z=3?2;y:0-9", 0, 3), 5);
        DUE.is("k", grown("y:k", 2, 3), 5);
        DUE.is("w behind what was taken", grown("y:w=27?2", 0, 3), 5);
        DUE.is("d", grown("y:d", 0, 3), 4);
        DUE.is("n as the HOUR began", grown("y:k=2&z=1?0-9;y:n", 0, 3), 4);
        DUE.is("h", grown("y:h=0?2", 0, 3), 5);
        DUE.is("0 without", grown("y:z=9?2", 0, 3), 3);
        DUE.is("9 at most", grown("y:z*10", 0, 3), 9);
        DUE.is("over at 0", grown("y:0-3", 0, 3), 0);
        DUE.is("over below 0", grown("y:0-9999", 0, 9), 0);
        DUE.is("first that holds", grown("y:z>5?5;y:z>1?2;y:z>2?4;y:1", 0, 3), 5);
        BelievedOnce x = Due.town("p;p");
        Due.hold(x, "y:h=23?2;y:d=99?3;y:0");
        x.hours(23);
        x.begin(0, 1, 1);
        x.begin(1, 1, 1);
        x.hours(1);
        DUE.sizes("at hour 23", x, 3, 3);
        x.hours(1);
        DUE.sizes("at hour 24, where there is no way", x, 3, 6);
    }

    private static void lawArithmetic() {
        DUE.is("* held", grown("y:9999*9999/1000-998", 0, 1), 3);
        DUE.is("* held below", grown("y:[0-9999]*9999/1000+1002", 0, 1), 3);
        DUE.is("+ held", grown("y:[1000*1000+5]-999*1001+1", 0, 1), 3);
        DUE.is("- held", grown("y:[0-1000*1000-5]+1000*1000+2", 0, 1), 3);
        DUE.is("/ cuts towards 0", grown("y:[0-7]/2+5", 0, 1), 3);
        DUE.is("/ by 0", grown("y:7/0+2", 0, 1), 3);
        DUE.is("* ahead of +", grown("y:1+2*3-5", 0, 1), 3);
        DUE.is("- from the left", grown("y:9-4-3", 0, 1), 3);
        DUE.is("/ from the left", grown("y:24/4*3/9", 0, 1), 3);
        DUE.is("[ ]", grown("y:[1+2]*3-[9-2]", 0, 1), 3);
    }

    private static void lawTruths() {
        DUE.is("& ahead of |", grown("y:z=1|z=2&z=3?2;y:0-9", 0, 1), 3);
        DUE.is("! of one UNIT", grown("y:!z=2&z=1?2;y:1", 0, 5), 6);
        DUE.is("! of ( )", grown("y:!(z=2&z=1)?2;y:1", 0, 5), 7);
        DUE.is("!!", grown("y:!!z=1?2;y:1", 0, 1), 3);
        DUE.is("( )", grown("y:(z=1|z=2)&z=3?2;y:1", 0, 1), 2);
        DUE.is("<", grown("y:z<1?4;y:z<2?2", 0, 1), 3);
        DUE.is(">", grown("y:z>1?4;y:z>0?2", 0, 1), 3);
        DUE.is("=", grown("y:z=0?4;y:z=1?2", 0, 1), 3);
        DUE.is("SUMS on both sides", grown("y:z+1*2=5-[z+1]?2;y:1", 0, 1), 3);
    }

    private static void walks() {
        BelievedOnce x = Due.town(LINE);
        DUE.is("walk(0) to himself", x.walk(0), -1);
        DUE.is("walk(2) too far", x.walk(2), -1);
        DUE.is("walk(4)", x.walk(4), -1);
        DUE.is("walk(-1)", x.walk(-1), -1);
        DUE.statuses("walks", x, 2, 0, 2, 0, 0);
        DUE.is("walk(1)", x.walk(1), 1);
        DUE.is("walk(0)", x.walk(0), 0);
        DUE.is("walk(1) without LEGS", x.walk(1), -1);
        DUE.is("walk(2) without LANE, then LEGS", x.walk(2), -1);
        DUE.statuses("walks", x, 2, 0, 3, 1, 0);
        x.hours(1);
        DUE.is("LEGS are full again", x.rule(0), 2);
        DUE.is("walk(1)", x.walk(1), 1);
        DUE.is("where he stands", x.rule(4), 1);
        DUE.is("count(8)", x.count(8), 4);
    }

    private static void cries() {
        BelievedOnce x = Due.town("se1;p;p;p;p;l;la1b2;la0b3");
        DUE.is("cry() at nothing", x.cry(), 0);
        DUE.is("CREDIT", x.rule(3), 0);
        DUE.is("cry() again", x.cry(), -1);
        DUE.statuses("cries", x, 0, 0, 0, 1, 0);
        x.heir();
        for (int p = 0; p < 4; p++) {
            DUE.is("begin", x.begin(p, p % 3, 9), p + 1);
        }
        DUE.is("cry()", x.cry(), 3);
        DUE.sizes("behind a cry", x, 0, 0, 9, 0);
        x = Due.town("se0;p;p;l");
        x.begin(0, 0, 1);
        x.begin(1, 0, 1);
        DUE.is("cry() with e0", x.cry(), 1);
        DUE.sizes("behind it", x, 0, 1);
    }

    private static void whispers() {
        BelievedOnce x = Due.town("sk5;pw99;pw99;l");
        DUE.is("whisper() at nothing", x.whisper(), -1);
        x.begin(0, 2, 9);
        DUE.is("whisper()", x.whisper(), 6);
        DUE.is("CREDIT", x.rule(3), 2);
        DUE.is("cry() too late", x.cry(), -1);
        DUE.is("whisper()", x.whisper(), 3);
        DUE.is("whisper()", x.whisper(), 0);
        DUE.is("over", x.most(4), 0);
        DUE.is("CREDIT", x.rule(3), 0);
        DUE.is("whisper() at nothing", x.whisper(), -1);
        x.begin(0, 2, 2);
        DUE.is("whisper() without CREDIT", x.whisper(), -1);
        DUE.statuses("whispers", x, 0, 0, 2, 2, 0);
        x.heir();
        DUE.is("whisper() at a SIZE of 2", x.whisper(), 0);
        DUE.is("over", x.spot(0, 2), -1);
    }

    private static void heirs() {
        BelievedOnce x = Due.town("sk9;p;p;l");
        DUE.is("heir() at full CREDIT", x.heir(), -1);
        x.walk(1);
        x.cry();
        DUE.is("heir()", x.heir(), 4);
        DUE.is("CREDIT", x.rule(3), 3);
        DUE.is("at PLACE 0", x.rule(4), 0);
        DUE.is("LEGS as they are", x.rule(0), 1);
        DUE.is("heir() at full CREDIT, then COINS", x.heir(), -1);
        x.cry();
        DUE.is("heir() for 4", x.heir(), -1);
        DUE.statuses("heirs", x, 0, 0, 2, 1, 0);
        x.give(1);
        DUE.is("heir() for 5", x.heir(), 0);
    }

    private static void beginnings() {
        BelievedOnce x = Due.town("p;p");
        int[][] refused = {{2, 0, 1}, {-1, 9, 9}, {0, 3, 1}, {0, -1, 1}, {0, 0, 0}, {0, 0, 10}};
        for (int[] r : refused) {
            DUE.is("begin " + r[0] + " " + r[1] + " " + r[2], x.begin(r[0], r[1], r[2]), -1);
        }
        DUE.statuses("begin", x, 2, 4, 0, 0, 0);
        DUE.is("begin(1, 2, 9)", x.begin(1, 2, 9), 1);
        DUE.is("begin(1, 2, 10)", x.begin(1, 2, 10), -1);
        DUE.is("begin(1, 0, 1)", x.begin(1, 0, 1), -1);
        DUE.statuses("begin", x, 2, 5, 1, 0, 0);
        DUE.is("KIND", x.spot(1, 2), 2);
        DUE.is("SIZE", x.spot(1, 3), 9);
        DUE.is("begin(0, 0, 1)", x.begin(0, 0, 1), 2);
        DUE.is("count(8)", x.count(8), 2);
    }

    private static void gifts() {
        BelievedOnce x = Due.town("sk99;p;p");
        DUE.is("give(0)", x.give(0), -1);
        DUE.is("give(51)", x.give(51), -1);
        for (int i = 1; i <= 18; i++) {
            DUE.is("give(50)", x.give(50), 99 + 50 * i);
        }
        DUE.is("give(1) above 999", x.give(1), -1);
        DUE.is("give(51) above 999", x.give(51), -1);
        DUE.statuses("give", x, 0, 3, 0, 1, 0);
        DUE.is("COINS", x.rule(2), 999);
        x.undo();
        DUE.is("give(50)", x.give(50), 999);
    }

    private static void lastHour() {
        BelievedOnce x = Due.town("pw99;pw99;l");
        DUE.is("hours(0)", x.hours(0), -1);
        DUE.is("hours(61)", x.hours(61), -1);
        for (int i = 1; i <= 166; i++) {
            DUE.is("hours(60)", x.hours(60), 60 * i);
        }
        DUE.is("hours(40)", x.hours(40), -1);
        DUE.is("years(40)", x.years(40, 1), -1);
        DUE.is("hours(61)", x.hours(61), -1);
        DUE.is("hours(39)", x.hours(39), 9999);
        DUE.is("hours(1)", x.hours(1), -1);
        DUE.is("years(1)", x.years(1, 1), -1);
        DUE.statuses("hours", x, 0, 3, 0, 0, 2);
        DUE.is("count(4)", x.count(4), 9999);
        Due.hold(x, "y:h=16?0-9;y:1");
        x.begin(0, 1, 5);
        DUE.is("lost(3) goes on", x.lost(3), 11);
        DUE.is("quiet() goes on", x.quiet(), 2);
        DUE.is("undo()", x.undo(), 39);
        DUE.is("undo()", x.undo(), 38);
        DUE.is("hours(1)", x.hours(1), 9999);
        x.undo();
        DUE.is("years(1)", x.years(1, 1), 9999);
    }

    /** By the seed 7: a fire of 3 in 2; nothing; a thief of 2 in 1 (where it burns), and he goes to 0. */
    private static void years() {
        BelievedOnce x = Due.town("pw50;pw50;pw50;l;la1b2");
        DUE.is("years(0)", x.years(0, 1), -1);
        DUE.is("years(61)", x.years(61, 1), -1);
        x.danger(9);
        x.walk(1);
        DUE.is("years(3, 7)", x.years(3, 7), 3);
        for (int i = 0; i < 3; i++) {
            for (int what = 0; what < 3; what++) {
                DUE.is("log(" + i + ", " + what + ")", x.log(i, what), YEARS[i][what]);
            }
        }
        DUE.is("one ACT each", x.count(8), 4);
        x.undo();
        DUE.is("the HOUR", x.count(4), 2);
        DUE.is("where he stands", x.rule(4), YEARS[1][2]);
        DUE.statuses("years", x, 0, 0, 0, 0, 0);
        x = Due.town("p;p;l");
        x.danger(0);
        x.walk(1);
        DUE.is("years(60) without DANGER", x.years(60, -5), 60);
        DUE.is("no TROUBLE", x.rule(5), 0);
        DUE.is("LEGS", x.rule(0), 2);
    }

    private static final int[][] YEARS = {{6, 6, 0}, {4, 6, 1}, {3, 4, 1}};

    private static void undone() {
        BelievedOnce x = Due.town(LINE);
        x.begin(0, 0, 4);
        x.walk(1);
        x.hours(2);
        x.give(5);
        x.whisper();
        DUE.is("count(8)", x.count(8), 6);
        DUE.is("undo()", x.undo(), 5);
        DUE.is("CREDIT", x.rule(3), 3);
        DUE.is("undo()", x.undo(), 4);
        DUE.is("COINS", x.rule(2), 9);
        DUE.is("undo()", x.undo(), 3);
        DUE.is("the HOUR", x.count(4), 1);
        DUE.is("LOG", x.count(7), 1);
        DUE.is("LOSS", x.rule(5), 4);
        DUE.is("LEGS", x.rule(0), 2);
        DUE.is("undo()", x.undo(), 2);
        DUE.worths("undone", x, 50, 30, 20, 10);
        DUE.sizes("undone", x, 4, 0, 0, 0);
        DUE.is("LEGS", x.rule(0), 1);
        DUE.is("undo()", x.undo(), 1);
        DUE.is("where he stands", x.rule(4), 0);
        DUE.is("undo()", x.undo(), 0);
        DUE.is("no TROUBLE", x.most(4), 0);
        DUE.is("undo()", x.undo(), -1);
        x.walk(9);
        x.give(1);
        x.undo();
        DUE.is("STATUS stays", x.status(0), 1);
        x.hours(45);
        DUE.is("count(8)", x.count(8), 40);
        for (int i = 39; i >= 0; i--) {
            DUE.is("undo()", x.undo(), i);
        }
        DUE.is("undo()", x.undo(), -1);
        DUE.is("the HOUR", x.count(4), 5);
    }

    private static void logs() {
        BelievedOnce x = Due.town("pw99;pw99;l");
        x.begin(0, 2, 9);
        x.hours(1);
        x.walk(1);
        x.hours(59);
        DUE.is("log(59, 0)", x.log(59, 0), 9);
        DUE.is("log(59, 1)", x.log(59, 1), 1);
        DUE.is("log(59, 2)", x.log(59, 2), 0);
        DUE.is("log(58, 0)", x.log(58, 0), 8);
        DUE.is("log(58, 2)", x.log(58, 2), 1);
        DUE.is("log(60, 0)", x.log(60, 0), -1);
        DUE.is("log(-1, 0)", x.log(-1, 0), -1);
        DUE.is("log(0, 3)", x.log(0, 3), -1);
        DUE.is("log(0, -1)", x.log(0, -1), -1);
        x.hours(40);
        DUE.is("count(7)", x.count(7), 60);
        DUE.is("log(59, 0)", x.log(59, 0), 0);
        for (int i = 0; i < 40; i++) {
            x.undo();
        }
        DUE.is("log(59, 0) is there again", x.log(59, 0), 9);
        DUE.is("log(51, 0)", x.log(51, 0), 1);
        DUE.is("log(51, 1): over then", x.log(51, 1), 0);
        DUE.is("log(52, 1)", x.log(52, 1), 1);
    }

    private static void images() {
        BelievedOnce x = Due.town(LINE);
        DUE.is("back() without IMAGE", x.back(), -1);
        x.begin(0, 0, 4);
        x.hours(3);
        x.walk(1);
        x.whisper();
        DUE.is("image()", x.image(), 3);
        DUE.is("ACTS stay", x.count(8), 6);
        int[] rules = new int[6];
        for (int i = 0; i < 6; i++) {
            rules[i] = x.rule(i);
        }
        x.heir();
        x.hours(60);
        x.hours(60);
        x.seen(0, 1, 9, true);
        x.walk(9);
        DUE.is("back()", x.back(), 3);
        for (int i = 0; i < 6; i++) {
            DUE.is("rule(" + i + ")", x.rule(i), rules[i]);
        }
        DUE.worths("back", x, 35, 27, 20, 10);
        DUE.sizes("back", x, 7, 0, 0, 0);
        DUE.is("LOG", x.count(7), 3);
        DUE.is("log(0, 0)", x.log(0, 0), 8);
        DUE.is("log(2, 0)", x.log(2, 0), 4);
        DUE.is("no ACTS", x.count(8), 0);
        DUE.is("undo()", x.undo(), -1);
        DUE.is("SEEN stays", x.count(6), 1);
        DUE.is("STATUS stays", x.status(0), 1);
        x.hours(1);
        DUE.is("back() again", x.back(), 3);
        x.hours(2);
        DUE.is("image() anew", x.image(), 5);
        x.hours(2);
        DUE.is("back()", x.back(), 5);
    }
}
