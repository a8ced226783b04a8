import java.math.BigInteger;

/** ACTS, STATUS, UNDO, YEARS, IMAGES (promises 11 to 20, 38, 39): a test for each sentence with a boundary case. */
public final class ActEdgesTest {
    private static final Due DUE = new Due();
    private static final int LOW = Integer.MIN_VALUE;
    private static final int FAR = Integer.MAX_VALUE;
    private static final String LINE = "sg2e1k9;pw50;pw30;pw20;pw10;l;la1b2";

    public static void main(String[] args) {
        noTown();
        hours();
        walks();
        cries();
        whispers();
        heirs();
        beginnings();
        gifts();
        firstOfSeveral();
        statusNumbers();
        refusedChangesNothing();
        undoneOneByOne();
        latestForty();
        undoneThings();
        notUndone();
        logUndone();
        images();
        imageOfLog();
        backAndUndo();
        yearBounds();
        yearsAtTheEnd();
        draws();
        seedAnew();
        noDanger();
        yearsUndone();
        DUE.close("ActEdgesTest");
    }

    private static void noTown() {
        DUE.says("NONE: no TOWN (STATUS 0)");
        BelievedOnce x = new BelievedOnce();
        DUE.is("hours(1)", x.hours(1), -1);
        DUE.is("hours(0): the first of several", x.hours(0), -1);
        DUE.is("cry()", x.cry(), -1);
        DUE.is("whisper()", x.whisper(), -1);
        DUE.is("heir()", x.heir(), -1);
        DUE.is("give(1)", x.give(1), -1);
        DUE.is("give(99): the first of several", x.give(99), -1);
        DUE.statuses("without a TOWN", x, 7, 0, 0, 0, 0);
        DUE.says("NONE: no such PLACE (STATUS 0)");
        DUE.is("walk(0)", x.walk(0), -1);
        DUE.is("begin(0, 0, 1)", x.begin(0, 0, 1), -1);
        DUE.is("begin(0, 9, 9)", x.begin(0, 9, 9), -1);
        DUE.statuses("without a TOWN", x, 10, 0, 0, 0, 0);
        DUE.says("YEARS .. NONE: no TOWN. No STATUS");
        DUE.is("years(1, 1)", x.years(1, 1), -1);
        DUE.is("image()", x.image(), -1);
        DUE.is("back()", x.back(), -1);
        DUE.is("undo()", x.undo(), -1);
        DUE.statuses("without a TOWN", x, 10, 0, 0, 0, 0);
        DUE.counts("without a TOWN", x, 0, 0, 0, -1, 0, 2, 0, 0, 0);
    }

    private static void hours() {
        DUE.says("HOURS (1 .. 60): the HOUR");
        BelievedOnce x = Due.town("p;p");
        DUE.is("hours(1)", x.hours(1), 1);
        DUE.is("hours(60)", x.hours(60), 61);
        DUE.says("out of bounds (1)");
        int[] refused = {0, 61, -1, LOW, FAR};
        for (int n : refused) {
            DUE.is("hours(" + n + ")", x.hours(n), -1);
        }
        DUE.is("the HOUR", x.count(4), 61);
        DUE.statuses("hours", x, 0, 5, 0, 0, 0);
    }

    private static void walks() {
        DUE.says("He WALKS to a PLACE beside (one of his LEGS each time)");
        BelievedOnce x = Due.town(LINE);
        DUE.is("walk(1)", x.walk(1), 1);
        DUE.is("walk(2)", x.walk(2), 0);
        DUE.is("where he stands", x.rule(4), 2);
        DUE.says("no LEGS (3)");
        DUE.is("walk(1)", x.walk(1), -1);
        DUE.is("where he stands", x.rule(4), 2);
        DUE.statuses("LEGS", x, 0, 0, 0, 1, 0);
        DUE.says("NONE: no such PLACE (STATUS 0)");
        int[] none = {4, 7, 8, -1, 33, LOW, FAR};
        for (int spot : none) {
            DUE.is("walk(" + spot + ")", x.walk(spot), -1);
        }
        DUE.statuses("none such", x, none.length, 0, 0, 1, 0);
        DUE.says("no LANE to it (2)");
        x = Due.town(LINE);
        DUE.is("walk(0) to where he stands", x.walk(0), -1);
        DUE.is("walk(2) two LANES far", x.walk(2), -1);
        DUE.is("walk(3) without a way", x.walk(3), -1);
        DUE.statuses("LANES", x, 0, 0, 3, 0, 0);
        DUE.is("LEGS", x.rule(0), 2);
    }

    private static void cries() {
        DUE.says("He CRIES (CREDIT 3 alone; 0 then): all TROUBLES he SEES are over");
        BelievedOnce x = Due.town("se2;p;p;p;p;p;l;la1b2;la2b3");
        for (int p = 0; p < 5; p++) {
            x.begin(p, p % 3, 9);
        }
        DUE.is("cry()", x.cry(), 3);
        DUE.sizes("2 STEPS far, not 3, not without a way", x, 0, 0, 0, 9, 9);
        DUE.is("CREDIT", x.rule(3), 0);
        x = Due.town("p;p");
        DUE.is("cry() at nothing", x.cry(), 0);
        DUE.is("CREDIT", x.rule(3), 0);
        DUE.says("too little CREDIT (3)");
        DUE.is("cry() with 0", x.cry(), -1);
        for (int whispers = 1; whispers <= 2; whispers++) {
            x = Due.town("p;p");
            x.begin(0, 2, 9);
            for (int i = 0; i < whispers; i++) {
                x.whisper();
            }
            DUE.is("CREDIT", x.rule(3), 3 - whispers);
            DUE.is("cry() with " + (3 - whispers), x.cry(), -1);
            DUE.statuses("cry", x, 0, 0, 0, 1, 0);
            DUE.is("the TROUBLE stays", x.spot(0, 3), 9 - 3 * whispers);
        }
    }

    private static void whispers() {
        DUE.says("SIZE of the TROUBLE where he stands is less by 3 (0 or less: it is over)");
        int[] left = {0, 0, 0, 1, 2, 3, 4, 5, 6};
        for (int size = 1; size <= 9; size++) {
            BelievedOnce x = Due.town("p;p;l");
            x.begin(0, 1, size);
            x.begin(1, 1, size);
            DUE.is("whisper() at " + size, x.whisper(), left[size - 1]);
            DUE.sizes("the other stays", x, left[size - 1], size);
            DUE.is("KIND", x.spot(0, 2), left[size - 1] == 0 ? -1 : 1);
            DUE.is("CREDIT 1 less", x.rule(3), 2);
        }
        BelievedOnce there = Due.town("p;p;l");
        there.begin(0, 1, 9);
        there.begin(1, 1, 5);
        there.walk(1);
        DUE.is("whisper() where he walked", there.whisper(), 2);
        DUE.sizes("the other stays", there, 9, 2);
        DUE.says("no TROUBLE where he stands (2)");
        BelievedOnce x = Due.town("p;p;l");
        x.begin(1, 1, 5);
        DUE.is("whisper()", x.whisper(), -1);
        DUE.statuses("whisper", x, 0, 0, 1, 0, 0);
        DUE.is("CREDIT", x.rule(3), 3);
        DUE.says("no CREDIT (3)");
        x.begin(0, 1, 9);
        x.cry();
        x.begin(0, 1, 9);
        DUE.is("whisper() behind a cry", x.whisper(), -1);
        DUE.statuses("whisper", x, 0, 0, 1, 1, 0);
        x = Due.town("p;p;l");
        x.begin(0, 1, 9);
        DUE.is("whisper() with 3", x.whisper(), 6);
        DUE.is("whisper() with 2", x.whisper(), 3);
        DUE.is("whisper() with 1", x.whisper(), 0);
        x.begin(0, 1, 9);
        DUE.is("whisper() with 0", x.whisper(), -1);
        DUE.is("CREDIT", x.rule(3), 0);
        DUE.is("SIZE", x.spot(0, 3), 9);
    }

    private static BelievedOnce criedAt1(int coins) {
        BelievedOnce x = Due.town("sg5k" + coins + ";p;p;l");
        x.walk(1);
        x.cry();
        return x;
    }

    private static void heirs() {
        DUE.says("An HEIR comes (CREDIT below 3, then 3; 5 COINS; at PLACE 0; LEGS as they are)");
        BelievedOnce x = criedAt1(5);
        DUE.is("heir() for 5", x.heir(), 0);
        DUE.rules("heir", x, 4, 1, 0, 3, 0, 0);
        x = criedAt1(99);
        DUE.is("heir() of 99", x.heir(), 94);
        x = Due.town("p;p");
        x.begin(0, 2, 9);
        x.whisper();
        DUE.is("heir() with CREDIT 2", x.heir(), 15);
        DUE.is("CREDIT", x.rule(3), 3);
        DUE.says("CREDIT is 3 (2)");
        DUE.is("heir()", x.heir(), -1);
        DUE.statuses("heir", x, 0, 0, 1, 0, 0);
        DUE.says("too few COINS (3)");
        x = criedAt1(4);
        DUE.is("heir() for 4", x.heir(), -1);
        DUE.statuses("heir", x, 0, 0, 0, 1, 0);
        DUE.rules("refused", x, 4, 1, 4, 0, 1, 0);
        DUE.is("heir() for 0", criedAt1(0).heir(), -1);
    }

    private static void beginnings() {
        DUE.says("A TROUBLE begins: how many there are");
        BelievedOnce x = Due.town(LINE);
        for (int p = 3; p >= 0; p--) {
            DUE.is("begin(" + p + ", 0, 1)", x.begin(p, 0, 1), 4 - p);
        }
        DUE.says("NONE: no such PLACE (STATUS 0)");
        x = Due.town(LINE);
        int[] none = {4, 7, 8, -1, LOW, FAR};
        for (int spot : none) {
            DUE.is("begin(" + spot + ", 0, 1)", x.begin(spot, 0, 1), -1);
        }
        DUE.statuses("begin", x, none.length, 0, 0, 0, 0);
        DUE.says("out of bounds (1)");
        int[] kinds = {-1, 3, LOW, FAR};
        for (int kind : kinds) {
            DUE.is("begin(0, " + kind + ", 1)", x.begin(0, kind, 1), -1);
        }
        int[] sizes = {-1, 0, 10, LOW, FAR};
        for (int size : sizes) {
            DUE.is("begin(0, 0, " + size + ")", x.begin(0, 0, size), -1);
        }
        DUE.statuses("begin", x, none.length, kinds.length + sizes.length, 0, 0, 0);
        DUE.is("no TROUBLE", x.most(4), 0);
        DUE.says("there is one (2)");
        x.begin(0, 0, 1);
        DUE.is("begin(0, 0, 1)", x.begin(0, 0, 1), -1);
        DUE.statuses("begin", x, none.length, kinds.length + sizes.length, 1, 0, 0);
    }

    private static void gifts() {
        DUE.says("COINS are given (1 .. 50; 999 at most)");
        BelievedOnce x = Due.town("sk0;p;p");
        DUE.is("give(1)", x.give(1), 1);
        DUE.is("give(50)", x.give(50), 51);
        DUE.says("out of bounds (1)");
        int[] refused = {0, 51, -1, LOW, FAR};
        for (int n : refused) {
            DUE.is("give(" + n + ")", x.give(n), -1);
        }
        DUE.is("COINS", x.rule(2), 51);
        DUE.statuses("give", x, 0, 5, 0, 0, 0);
        DUE.says("above 999 (3)");
        for (int i = 0; i < 18; i++) {
            x.give(50);
        }
        DUE.is("give(49) above 999", x.give(49), -1);
        DUE.is("COINS", x.rule(2), 951);
        DUE.is("give(48)", x.give(48), 999);
        DUE.is("give(1) above 999", x.give(1), -1);
        DUE.is("COINS", x.rule(2), 999);
        DUE.statuses("give", x, 0, 5, 0, 2, 0);
    }

    private static void firstOfSeveral() {
        DUE.says("of several the first");
        BelievedOnce x = Due.town("sg1k4;p;p;p;l");
        DUE.is("begin: no PLACE, out of bounds", x.begin(3, 3, 0), -1);
        DUE.statuses("0 ahead of 1", x, 1, 0, 0, 0, 0);
        x.begin(1, 0, 1);
        DUE.is("begin: out of bounds, there is one", x.begin(1, 3, 1), -1);
        DUE.is("begin: out of bounds, there is one", x.begin(1, 0, 10), -1);
        DUE.statuses("1 ahead of 2", x, 1, 2, 0, 0, 0);
        x.walk(1);
        DUE.is("walk: no LANE, no LEGS", x.walk(2), -1);
        DUE.is("walk: where he stands, no LEGS", x.walk(1), -1);
        DUE.statuses("2 ahead of 3", x, 1, 2, 2, 0, 0);
        DUE.is("walk: no PLACE, no LEGS", x.walk(3), -1);
        DUE.statuses("0 ahead of 3", x, 2, 2, 2, 0, 0);
        DUE.is("heir: CREDIT is 3, too few COINS", x.heir(), -1);
        DUE.statuses("2 ahead of 3", x, 2, 2, 3, 0, 0);
        x.cry();
        DUE.is("whisper: no TROUBLE, no CREDIT", x.whisper(), -1);
        DUE.statuses("2 ahead of 3", x, 2, 2, 4, 0, 0);
        for (int i = 0; i < 20; i++) {
            x.give(49);
        }
        DUE.is("give: out of bounds, above 999", x.give(51), -1);
        DUE.statuses("1 ahead of 3", x, 2, 3, 4, 0, 0);
        for (int i = 0; i < 166; i++) {
            x.hours(60);
        }
        x.hours(39);
        DUE.is("hours: out of bounds, beyond the last HOUR", x.hours(61), -1);
        DUE.statuses("1 ahead of 4", x, 2, 4, 4, 0, 0);
    }

    private static void statusNumbers() {
        DUE.says("NONE: no such what");
        BelievedOnce x = Due.town("p;p");
        int[] none = {-1, 5, LOW, FAR};
        for (int what : none) {
            DUE.is("status(" + what + ")", x.status(what), -1);
        }
        DUE.says("STATUS: how many ACTS were refused");
        for (int i = 1; i <= 200; i++) {
            x.hours(0);
            DUE.is("status(1)", x.status(1), i);
        }
    }

    private static BelievedOnce busyNight() {
        BelievedOnce x = Due.town("sg2e1k9;pw50;pw30;pw20;pw10;l;la1b2");
        x.begin(2, 0, 2);
        x.begin(0, 2, 9);
        x.hours(2);
        x.walk(1);
        x.seen(0, 1, 40, true);
        x.image();
        return x;
    }

    private static void refusedChangesNothing() {
        DUE.says("What is refused answers as told and changes nothing but STATUS");
        BelievedOnce x = busyNight();
        Due.lay(x, "p;");
        String before = Due.told(x);
        int[] got = {x.hours(0), x.hours(61), x.walk(9), x.walk(3), x.whisper(), x.heir(), x.begin(9, 0, 1),
            x.begin(1, 3, 1), x.begin(2, 0, 1), x.give(0), x.years(0, 1), x.years(61, 1), x.text(0), x.text(1),
            x.text(2), x.lost(61), x.left(4, 1), x.cryAt(25, 0), x.call(41, 0), x.round(6, 0), x.seen(4, 1, 1, true),
            x.seen(0, 21, 1, true), x.fits(999), x.ask(4), x.rests(0, 0, 0), x.odds(0, 7, 0, 0), x.shares(0, 1000),
            x.most(13)};
        for (int i = 0; i < got.length; i++) {
            DUE.is("refused call " + i, got[i], -1);
        }
        DUE.is("danger(2)", x.danger(2), false);
        DUE.is("law(0)", x.law(0), false);
        DUE.is("end(3)", x.end(3), false);
        DUE.same("what is told", Due.told(x), before);
        DUE.statuses("refused", x, 2, 4, 4, 0, 0);
        DUE.is("back() to the same IMAGE", x.back(), 2);
    }

    private static void undoneOneByOne() {
        DUE.says("The latest ACT is UNDONE: how many still can be. NONE: none");
        BelievedOnce x = Due.town("p;p;l");
        DUE.is("undo() of none", x.undo(), -1);
        x.give(1);
        x.give(2);
        x.give(3);
        DUE.is("undo()", x.undo(), 2);
        DUE.is("COINS", x.rule(2), 23);
        DUE.is("undo()", x.undo(), 1);
        DUE.is("COINS", x.rule(2), 21);
        x.give(9);
        DUE.is("ACTS", x.count(8), 2);
        DUE.is("undo()", x.undo(), 1);
        DUE.is("COINS", x.rule(2), 21);
        DUE.is("undo()", x.undo(), 0);
        DUE.is("COINS", x.rule(2), 20);
        DUE.is("undo() of none", x.undo(), -1);
        DUE.is("COINS", x.rule(2), 20);
        DUE.statuses("no STATUS", x, 0, 0, 0, 0, 0);
    }

    private static void latestForty() {
        DUE.says("the latest 40 can be UNDONE one by one");
        BelievedOnce x = Due.town("sk0;p;p;l");
        for (int i = 1; i <= 39; i++) {
            x.give(1);
        }
        DUE.is("39 ACTS", x.count(8), 39);
        x.give(1);
        DUE.is("40 ACTS", x.count(8), 40);
        x.give(1);
        DUE.is("41 ACTS", x.count(8), 40);
        for (int i = 39; i >= 0; i--) {
            DUE.is("undo()", x.undo(), i);
            DUE.is("COINS", x.rule(2), i + 1);
        }
        DUE.is("undo() of the 41st", x.undo(), -1);
        DUE.is("COINS", x.rule(2), 1);
        DUE.says("All these (each HOUR) are ACTS");
        x = Due.town("p;p");
        x.hours(3);
        DUE.is("ACTS of hours(3)", x.count(8), 3);
        x.undo();
        DUE.is("the HOUR", x.count(4), 2);
        x.hours(60);
        DUE.is("ACTS of hours(60)", x.count(8), 40);
        for (int i = 0; i < 40; i++) {
            x.undo();
        }
        DUE.is("the HOUR", x.count(4), 22);
        DUE.is("LOG", x.count(7), 22);
    }

    private static void undoneThings() {
        DUE.says("ACTS .. can be UNDONE one by one (LOG, too)");
        BelievedOnce x = Due.town("sg2e1k9;pw50;pw30;pw20;l;la1b2");
        String[] told = new String[11];
        for (int i = 0; i < told.length; i++) {
            told[i] = Due.told(x);
            switch (i) {
                case 0: x.begin(0, 0, 4); break;
                case 1: x.begin(2, 1, 9); break;
                case 2: x.hours(1); break;
                case 3: x.walk(1); break;
                case 4: x.hours(1); break;
                case 5: x.whisper(); break;
                case 6: x.heir(); break;
                case 7: x.cry(); break;
                case 8: x.give(50); break;
                case 9: x.years(1, 12345); break;
                default: x.hours(1); break;
            }
            DUE.is("ACTS", x.count(8), i + 1);
        }
        for (int i = told.length - 1; i >= 0; i--) {
            DUE.is("undo()", x.undo(), i);
            DUE.same("what is told behind undo() " + i, Due.told(x), told[i]);
        }
    }

    private static void notUndone() {
        DUE.says("STATUS: .. not UNDONE");
        BelievedOnce x = Due.town("p;p;l");
        x.give(1);
        x.walk(9);
        x.give(0);
        x.walk(0);
        x.cry();
        x.cry();
        DUE.is("ACTS that were not refused", x.count(8), 2);
        x.undo();
        x.undo();
        DUE.statuses("undone", x, 1, 1, 1, 1, 0);
        DUE.says("All these .. are ACTS: what is told of LAWS, DANGER, SEEN, IMAGES is none");
        Due.hold(x, "y:1");
        x.danger(5);
        x.seen(0, 1, 1, true);
        x.image();
        DUE.is("ACTS", x.count(8), 0);
        x.give(1);
        x.undo();
        DUE.counts("undone", x, 2, 1, 0, 0, 0, 5, 1, 0, 0);
        DUE.is("back()", x.back(), 0);
    }

    private static void logUndone() {
        DUE.says("UNDONE one by one (LOG, too); the LOG .. (the latest 60)");
        BelievedOnce x = Due.town("pw99;pw99;l");
        Due.hold(x, "y:h=0?1;y:0");
        x.begin(0, 1, 1);
        x.hours(24);
        x.walk(1);
        x.hours(36);
        x.hours(39);
        DUE.is("the HOUR", x.count(4), 99);
        for (int i = 0; i < 39; i++) {
            x.undo();
        }
        DUE.is("the HOUR", x.count(4), 60);
        DUE.is("LOG", x.count(7), 60);
        DUE.logRow(x, 59, 1, 1, 0);
        DUE.logRow(x, 58, 2, 1, 0);
        DUE.logRow(x, 35, 2, 1, 1);
        DUE.logRow(x, 34, 3, 1, 1);
        DUE.logRow(x, 18, 2, 1, 1);
        DUE.logRow(x, 0, 0, 1, 1);
        DUE.logRow(x, 60, -1, -1, -1);
    }

    private static void images() {
        DUE.says("An IMAGE (instead of the one ahead): the HOUR. NONE: no TOWN");
        BelievedOnce x = Due.town(LINE);
        DUE.says("BACK: the HOUR. NONE: no IMAGE of this TOWN");
        DUE.is("back() without one", x.back(), -1);
        x.give(1);
        DUE.is("ACTS stay", x.count(8), 1);
        DUE.is("image()", x.image(), 0);
        x.hours(5);
        DUE.is("image() anew", x.image(), 5);
        x.hours(5);
        DUE.is("back()", x.back(), 5);
        DUE.is("back() again", x.back(), 5);
        DUE.says("An IMAGE keeps WORTH, TROUBLES, where he stands, LEGS, CREDIT, COINS, LOSS, the HOUR, the LOG");
        x = busyNight();
        x.begin(1, 1, 5);
        x.whisper();
        x.image();
        String then = Due.told(x);
        x.cry();
        x.heir();
        x.give(9);
        x.years(30, 77);
        x.hours(60);
        DUE.is("back()", x.back(), 2);
        DUE.same("what is told", Due.told(x), then.replace("2 1 2 7 rules", "2 1 2 0 rules"));
        DUE.is("as it was then", then.startsWith("counts 4 0 0 -1 2 2 1 2 7 rules 1 1 9 2 1 22 "), true);
    }

    private static void imageOfLog() {
        DUE.says("An IMAGE keeps .. the LOG");
        BelievedOnce x = Due.town("pw99;pw99;l");
        Due.hold(x, "y:h=0?1;y:0");
        x.begin(0, 1, 1);
        x.hours(1);
        x.walk(1);
        x.hours(59);
        x.image();
        x.walk(0);
        x.cry();
        x.hours(60);
        x.hours(60);
        DUE.logRow(x, 59, 0, 0, 0);
        DUE.is("back()", x.back(), 60);
        DUE.is("LOG", x.count(7), 60);
        DUE.logRow(x, 59, 1, 1, 0);
        DUE.logRow(x, 58, 2, 1, 1);
        DUE.logRow(x, 0, 0, 1, 1);
        x.hours(1);
        DUE.logRow(x, 59, 2, 1, 1);
    }

    private static void backAndUndo() {
        DUE.says("BACK: they are so again (no ACT can be UNDONE then)");
        BelievedOnce x = busyNight();
        DUE.is("ACTS", x.count(8), 5);
        DUE.is("back()", x.back(), 2);
        DUE.is("ACTS", x.count(8), 0);
        DUE.is("undo()", x.undo(), -1);
        DUE.is("the HOUR", x.count(4), 2);
        x.give(1);
        DUE.is("undo() of a new one", x.undo(), 0);
        DUE.is("COINS", x.rule(2), 9);
        DUE.is("undo()", x.undo(), -1);
        DUE.says("BACK: what an IMAGE does not keep stays");
        x.danger(8);
        x.walk(9);
        x.seen(1, 1, 1, true);
        Due.hold(x, "y:1");
        Due.lay(x, "ppp");
        x.back();
        DUE.counts("back", x, 4, 1, 3, 0, 2, 8, 2, 2, 0);
        DUE.statuses("back", x, 1, 0, 0, 0, 0);
        DUE.says("UNDO leaves an IMAGE");
        x = busyNight();
        x.undo();
        x.undo();
        DUE.is("the HOUR", x.count(4), 1);
        DUE.is("back()", x.back(), 2);
        DUE.is("where he stands", x.rule(4), 1);
    }

    private static void yearBounds() {
        DUE.says("YEARS by a seed: n (1 .. 60) HOURS; NONE: .. out of bounds. No STATUS");
        BelievedOnce x = Due.town("p;p;l");
        int[] refused = {0, 61, -1, LOW, FAR};
        for (int n : refused) {
            DUE.is("years(" + n + ", 1)", x.years(n, 1), -1);
        }
        DUE.counts("refused", x, 2, 0, 0, -1, 0, 2, 0, 0, 0);
        DUE.is("years(1, 1)", x.years(1, 1), 1);
        DUE.is("years(60, 1)", x.years(60, 1), 61);
        DUE.is("LOG", x.count(7), 60);
        DUE.is("ACTS", x.count(8), 40);
        DUE.statuses("years", x, 0, 0, 0, 0, 0);
    }

    private static void yearsAtTheEnd() {
        DUE.says("NONE: .. beyond 9,999");
        BelievedOnce x = Due.town("p;p;l");
        for (int i = 0; i < 166; i++) {
            x.hours(60);
        }
        String before = Due.told(x);
        DUE.is("years(40, 1)", x.years(40, 1), -1);
        DUE.same("what is told", Due.told(x), before);
        DUE.is("years(39, 1)", x.years(39, 1), 9999);
        DUE.is("years(1, 1)", x.years(1, 1), -1);
        DUE.statuses("years", x, 0, 0, 0, 0, 0);
    }

    /** The draws of a seed with numbers that do not go round by themselves. */
    private static final class Draws {
        private static final BigInteger ROUND = BigInteger.ONE.shiftLeft(64);
        private BigInteger x;

        Draws(long seed) {
            x = BigInteger.valueOf(seed).mod(ROUND);
        }

        int of(int j) {
            x = x.multiply(new BigInteger("6364136223846793005")).add(new BigInteger("1442695040888963407")).mod(ROUND);
            return x.shiftRight(33).mod(BigInteger.valueOf(j)).intValue();
        }
    }

    private static void draws() {
        DUE.says("a draw of j: (x shifted right by 33, without sign) modulo j");
        long[] seeds = {0, 1, -1, 7, Long.MIN_VALUE, Long.MAX_VALUE, 1L << 32, -(1L << 40), 123456789123L};
        for (int places = 2; places <= 8; places++) {
            for (int danger = 0; danger <= 9; danger++) {
                for (long seed : seeds) {
                    drawnHour(places, danger, seed + 3 * places);
                }
            }
        }
    }

    /** One HOUR on a TOWN in which nothing grows; LANES go from 0 to each odd PLACE. */
    private static void drawnHour(int places, int danger, long seed) {
        StringBuilder town = new StringBuilder("sg2");
        for (int p = 0; p < places; p++) {
            town.append(";pw50");
        }
        for (int p = 1; p < places; p += 2) {
            town.append(";lb").append(p);
        }
        BelievedOnce x = Due.town(town.toString());
        Due.hold(x, "y:0");
        x.danger(danger);
        x.begin(places - 1, 2, 9);
        x.walk(1);
        x.walk(0);
        DUE.is("he has no LEGS left", x.rule(0), 0);
        Draws draws = new Draws(seed);
        String where = "years(1, " + seed + ") with DANGER " + danger + " in " + places;
        int spot = -1;
        int kind = -1;
        int size = 0;
        if (draws.of(10) < danger) {
            spot = draws.of(places);
            kind = draws.of(3);
            size = draws.of(3) + 1;
        }
        int goal = draws.of(places);
        DUE.is(where, x.years(1, seed), 1);
        for (int p = 0; p < places; p++) {
            boolean drawn = p == spot && p != places - 1;
            int bigger = p == places - 1 ? 9 : drawn ? size : 0;
            DUE.is(where + ": SIZE in " + p, x.spot(p, 3), bigger);
            DUE.is(where + ": KIND in " + p, x.spot(p, 2), p == places - 1 ? 2 : drawn ? kind : -1);
            DUE.is(where + ": it takes in this HOUR", x.spot(p, 0), 50 - bigger);
        }
        DUE.is(where + ": where he stands", x.rule(4), goal % 2 == 1 ? goal : 0);
    }

    private static void seedAnew() {
        DUE.says("x, at first the seed");
        for (long seed = -3; seed < 40; seed++) {
            Draws draws = new Draws(seed);
            // With DANGER 0 each HOUR has a draw of 10, then the one for his walk.
            draws.of(10);
            int first = draws.of(2);
            draws.of(10);
            int second = draws.of(2);
            BelievedOnce x = Due.town("p;p;l");
            x.danger(0);
            x.years(2, seed);
            DUE.is("behind the first HOUR by " + seed, x.log(1, 2), first);
            DUE.is("behind the second HOUR by " + seed, x.log(0, 2), second);
            x.years(1, seed);
            DUE.is("by the seed again", x.log(0, 2), first);
        }
    }

    private static void noDanger() {
        DUE.says("a draw of 10 below DANGER (0 .. 9");
        BelievedOnce x = Due.town("p;p;p");
        x.danger(0);
        x.years(60, 99);
        DUE.is("no TROUBLE with 0", x.rule(5), 0);
        DUE.is("where he stands, nothing beside", x.rule(4), 0);
        int none = 0;
        int some = 0;
        for (long seed = 0; seed < 200; seed++) {
            int drawn = new Draws(seed).of(10);
            for (int danger = drawn; danger <= drawn + 1 && danger <= 9; danger++) {
                x = Due.town("p;p;p");
                x.danger(danger);
                x.years(1, seed);
                DUE.is("LOSS with DANGER " + danger + " at a draw of " + drawn, x.rule(5) > 0, danger > drawn);
                none += danger > drawn ? 0 : 1;
                some += danger > drawn ? 1 : 0;
            }
        }
        DUE.is("both were there", none > 0 && some > 0, true);
    }

    private static void yearsUndone() {
        DUE.says("Each HOUR with what is ahead of it is one ACT");
        BelievedOnce x = Due.town("pw90;pw90;pw90;l;lb2");
        x.danger(9);
        String[] told = new String[4];
        for (int n = 0; n < 4; n++) {
            BelievedOnce y = Due.town("pw90;pw90;pw90;l;lb2");
            y.danger(9);
            y.years(n, 5);
            told[n] = Due.told(y);
        }
        x.years(4, 5);
        DUE.is("ACTS", x.count(8), 4);
        for (int n = 3; n >= 0; n--) {
            DUE.is("undo()", x.undo(), n);
            DUE.same("what is told behind " + n, Due.told(x), told[n]);
        }
    }
}
