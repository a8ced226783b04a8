/** STEPS, what he SEES, TROUBLES and HOURS (part 2 of the Terms): a test for each sentence with a boundary case. */
public final class HourEdgesTest {
    private static final Due DUE = new Due();
    private static final int FAR = Integer.MAX_VALUE;
    private static final String ROW = "p;p;p;p;p;p;p;p;l;la1b2;la2b3;la3b4;la4b5;la5b6;la6b7";

    public static void main(String[] args) {
        newObject();
        steps();
        sight();
        atFirst();
        oneTrouble();
        fireGrowth();
        thiefGrowth();
        floodGrowth();
        taking();
        mostLoss();
        growing();
        sizesAsItBegan();
        mostAndLeast();
        spreading();
        notSpreading();
        allAtOnce();
        logRows();
        latestSixty();
        legsAgain();
        lastHour();
        DUE.close("HourEdgesTest");
    }

    private static void newObject() {
        DUE.says("No TOWN");
        BelievedOnce x = new BelievedOnce();
        DUE.counts("new", x, 0, 0, 0, -1, 0, 2, 0, 0, 0);
        DUE.rules("new", x, -1, -1, -1, -1, -1, -1);
        DUE.statuses("new", x, 0, 0, 0, 0, 0);
        DUE.noSuchSpot(x, 0, 0);
        DUE.is("log(0, 0)", x.log(0, 0), -1);
        DUE.is("undo()", x.undo(), -1);
        DUE.says("HIDDEN for others");
        int[] others = {-1, 9, Integer.MIN_VALUE, FAR};
        for (int what : others) {
            DUE.is("count(" + what + ")", x.count(what), -1000000);
            DUE.is("count(" + what + ") of a TOWN", Due.town("p;p").count(what), -1000000);
        }
        DUE.says("NONE: no TOWN, no such what");
        x = Due.town("p;p");
        int[] none = {-1, 6, Integer.MIN_VALUE, FAR};
        for (int what : none) {
            DUE.is("rule(" + what + ")", x.rule(what), -1);
        }
        DUE.says("NoSuchElementException: no such ones");
        for (int wrong : none) {
            DUE.noSuchSpot(x, wrong, 0);
            DUE.noSuchSpot(x, 0, wrong);
            DUE.noSuchSpot(x, wrong, wrong);
        }
        DUE.noSuchSpot(x, 2, 0);
        DUE.noSuchSpot(x, 1, 5);
        DUE.says("2 KIND of its TROUBLE (NONE), 3 SIZE (0: none)");
        DUE.is("spot(1, 2)", x.spot(1, 2), -1);
        DUE.is("spot(1, 3)", x.spot(1, 3), 0);
        x.begin(1, 0, 1);
        DUE.is("spot(1, 2)", x.spot(1, 2), 0);
        DUE.is("spot(1, 3)", x.spot(1, 3), 1);
    }

    private static void steps() {
        DUE.says("STEPS from one to another: the fewest LANES (to itself 0; there is no way: 99)");
        BelievedOnce x = Due.town(ROW);
        for (int from = 0; from < 8; from++) {
            for (int to = 0; to < 8; to++) {
                DUE.is("steps(" + from + ", " + to + ") in a row", x.steps(from, to), Math.abs(from - to));
            }
        }
        x = Due.town(ROW + ";la0b7");
        for (int from = 0; from < 8; from++) {
            for (int to = 0; to < 8; to++) {
                int one = Math.abs(from - to);
                DUE.is("steps(" + from + ", " + to + ") in a ring", x.steps(from, to), Math.min(one, 8 - one));
            }
        }
        x = Due.town("p;p;p;p;p;la4b1;la1b3");
        int[][] want = {{0, 99, 99, 99, 99}, {99, 0, 99, 1, 1}, {99, 99, 0, 99, 99}, {99, 1, 99, 0, 2},
            {99, 1, 99, 2, 0}};
        for (int from = 0; from < 5; from++) {
            for (int to = 0; to < 5; to++) {
                DUE.is("steps(" + from + ", " + to + ")", x.steps(from, to), want[from][to]);
            }
        }
        DUE.says("NONE: no such PLACES");
        int[] none = {-1, 5, 8, Integer.MIN_VALUE, FAR};
        for (int wrong : none) {
            DUE.is("steps(" + wrong + ", 0)", x.steps(wrong, 0), -1);
            DUE.is("steps(0, " + wrong + ")", x.steps(0, wrong), -1);
            DUE.is("steps of both", x.steps(wrong, wrong), -1);
        }
        DUE.is("steps(0, 0) without a TOWN", new BelievedOnce().steps(0, 0), -1);
    }

    private static void sight() {
        DUE.says("SEES all that are as many STEPS off as he SEES, or fewer");
        int[] fromFirst = {1, 3, 7, 15, 31};
        int[] fromThird = {4, 14, 31, 63, 127};
        for (int e = 0; e <= 4; e++) {
            BelievedOnce x = Due.town("se" + e + ";" + ROW);
            DUE.is("SEEN NOW with e" + e, x.most(5), fromFirst[e]);
            x.walk(1);
            x.walk(2);
            DUE.is("SEEN NOW from 2 with e" + e, x.most(5), fromThird[e]);
        }
        DUE.is("none without a way", Due.town("se4;p;p;p;la1b2").most(5), 1);
    }

    private static void atFirst() {
        DUE.says("The WATCHMAN stands at a PLACE (0 at first)");
        BelievedOnce x = Due.town("sg4e3k55;la2b1;p;p;p");
        DUE.is("rule(4)", x.rule(4), 0);
        DUE.says("CREDIT: 3 at first");
        DUE.is("rule(3)", x.rule(3), 3);
        DUE.says("An HOUR (0 at first");
        DUE.is("count(4)", x.count(4), 0);
        DUE.says("LOSS more by that (0 at first");
        DUE.is("rule(5)", x.rule(5), 0);
        DUE.says("DANGER (0 .. 9; 2 at first)");
        DUE.is("count(5)", x.count(5), 2);
        DUE.says("False: out of bounds, it is so");
        int[] refused = {-1, 10, 2, Integer.MIN_VALUE, FAR};
        for (int v : refused) {
            DUE.is("danger(" + v + ")", x.danger(v), false);
            DUE.is("count(5)", x.count(5), 2);
        }
        for (int v = 0; v <= 9; v++) {
            DUE.is("danger(" + v + ")", x.danger(v), true);
            DUE.is("danger(" + v + ") again", x.danger(v), false);
            DUE.is("count(5)", x.count(5), v);
        }
        DUE.is("danger(0)", x.danger(0), true);
        DUE.statuses("no STATUS", x, 0, 0, 0, 0, 0);
        DUE.is("danger(9) without a TOWN", new BelievedOnce().danger(9), true);
    }

    private static void oneTrouble() {
        DUE.says("In a PLACE there is one TROUBLE at most: its KIND (0 fire, 1 thief, 2 flood), its SIZE (1 .. 9)");
        for (int kind = 0; kind < 3; kind++) {
            for (int size = 1; size <= 9; size += 8) {
                BelievedOnce x = Due.town("p;p;l");
                DUE.is("begin(1, " + kind + ", " + size + ")", x.begin(1, kind, size), 1);
                DUE.kinds("begun", x, -1, kind);
                DUE.sizes("begun", x, 0, size);
                DUE.is("begin anew", x.begin(1, (kind + 1) % 3, 5), -1);
                DUE.kinds("as it was", x, -1, kind);
                DUE.sizes("as it was", x, 0, size);
                DUE.is("status(2)", x.status(2), 1);
                DUE.is("FIRES", x.most(6), kind == 0 ? 2 : 0);
                DUE.is("THIEVES", x.most(7), kind == 1 ? 2 : 0);
                DUE.is("FLOODS", x.most(8), kind == 2 ? 2 : 0);
            }
        }
    }

    private static BelievedOnce hourOf(String town, int spot, int kind, int size) {
        BelievedOnce x = Due.town(town);
        x.begin(spot, kind, size);
        x.hours(1);
        return x;
    }

    private static void fireGrowth() {
        DUE.says("a fire 1, where WORTH is above 0, else -1");
        DUE.sizes("1 is left", hourOf("pw3;p", 0, 0, 2), 3, 0);
        DUE.sizes("0 is left", hourOf("pw2;p", 0, 0, 2), 1, 0);
        DUE.sizes("less was there", hourOf("pw1;p", 0, 0, 2), 1, 0);
        DUE.sizes("0 is left, over", hourOf("pw1;p", 0, 0, 1), 0, 0);
        DUE.sizes("far from him, too", hourOf("p;pw9", 1, 0, 2), 0, 3);
    }

    private static void thiefGrowth() {
        DUE.says("a thief -1, where the WATCHMAN is 1 STEP off or less, else 1");
        String row = "p;p;p;p;l;la1b2";
        DUE.sizes("0 STEPS", hourOf(row, 0, 1, 2), 1);
        DUE.sizes("1 STEP", hourOf(row, 1, 1, 2), 0, 1);
        DUE.sizes("2 STEPS", hourOf(row, 2, 1, 2), 0, 0, 3);
        DUE.sizes("no way", hourOf(row, 3, 1, 2), 0, 0, 0, 3);
        DUE.sizes("2 STEPS, he SEES it", hourOf("se4;" + row, 2, 1, 2), 0, 0, 3);
        DUE.sizes("1 STEP, he SEES it not", hourOf("se0;" + row, 1, 1, 2), 0, 1);
        DUE.sizes("without WORTH", hourOf("p;p;pw1", 2, 1, 2), 0, 0, 3);
        BelievedOnce x = Due.town(row);
        x.begin(2, 1, 2);
        x.walk(1);
        x.hours(1);
        DUE.sizes("1 STEP from where he walked", x, 0, 0, 1);
    }

    private static void floodGrowth() {
        DUE.says("a flood -1");
        DUE.sizes("near", hourOf("p;p;p;l", 0, 2, 9), 8);
        DUE.sizes("far", hourOf("p;p;p;l", 2, 2, 9), 0, 0, 8);
        DUE.sizes("without WORTH", hourOf("pw1;p", 0, 2, 3), 2);
        DUE.sizes("over", hourOf("p;p", 0, 2, 1), 0);
    }

    private static void taking() {
        DUE.says("each TROUBLE takes its SIZE of WORTH of its PLACE (as much as there is): LOSS more by that");
        BelievedOnce x = Due.town("pw3;pw9;pw10;p");
        x.begin(0, 2, 9);
        x.begin(1, 1, 9);
        x.begin(2, 0, 9);
        x.hours(1);
        DUE.worths("less, as much, more than SIZE", x, 0, 0, 1, 20);
        DUE.is("LOSS", x.rule(5), 3 + 9 + 9);
        DUE.is("log(0, 0)", x.log(0, 0), 21);
        DUE.sizes("then", x, 8, 9, 9, 0);
        x.hours(1);
        DUE.worths("nothing is left", x, 0, 0, 0, 20);
        DUE.is("LOSS", x.rule(5), 22);
        DUE.is("log(0, 0)", x.log(0, 0), 1);
        DUE.says("RUINS (without WORTH)");
        DUE.is("most(9)", x.most(9), 7);
    }

    /** WORTH is 8 times 99 at most and never more again, so that LOSS can't come to 9,999. */
    private static void mostLoss() {
        DUE.says("LOSS more by that (0 at first, 9,999 at most)");
        BelievedOnce x = Due.town("pw99" + ";pw99".repeat(7));
        Due.hold(x, "y:0");
        for (int p = 0; p < 8; p++) {
            x.begin(p, 1 + p % 2, 9);
        }
        DUE.is("lost(60)", x.lost(60), 792);
        DUE.is("lost(10)", x.lost(10), 720);
        x.hours(10);
        DUE.is("LOSS", x.rule(5), 720);
        DUE.is("lost(60)", x.lost(60), 72);
        x.hours(60);
        DUE.is("LOSS", x.rule(5), 792);
        DUE.is("ALL", x.most(11), 0);
        DUE.is("RUINS", x.most(9), 255);
        DUE.is("log(59, 0)", x.log(59, 0), 72);
        DUE.is("log(58, 0)", x.log(58, 0), 0);
    }

    private static void growing() {
        DUE.says("by WORTH behind (i)");
        BelievedOnce x = Due.town("pw5;pw6");
        Due.hold(x, "y:w=1?2;y:0-2");
        x.begin(0, 1, 5);
        x.begin(1, 1, 5);
        x.hours(1);
        DUE.sizes("by 0 and by 1", x, 3, 7);
    }

    private static void sizesAsItBegan() {
        DUE.says("all by SIZES as the HOUR began");
        BelievedOnce x = Due.town("pw50;pw50;l");
        Due.hold(x, "y:n=1?0-9;y:9");
        x.begin(0, 1, 2);
        x.begin(1, 1, 2);
        x.hours(1);
        DUE.sizes("each saw the other", x, 0, 0);
        x = Due.town("pw50;pw50;pw50;l;la1b2");
        Due.hold(x, "y:n");
        x.begin(1, 0, 4);
        x.hours(1);
        DUE.sizes("none beside", x, 0, 4, 0);
        x.begin(0, 2, 9);
        x.hours(1);
        DUE.sizes("1 beside, the fire of 5 spreads behind that", x, 9, 5, 1);
        x.hours(1);
        DUE.sizes("what has spread counts then", x, 9, 7, 2);
    }

    private static int grownBy(int size, String law) {
        BelievedOnce x = Due.town("pw99;p");
        Due.hold(x, law);
        x.begin(0, 2, size);
        x.hours(1);
        DUE.is("KIND when SIZE is " + x.spot(0, 3), x.spot(0, 2), x.spot(0, 3) == 0 ? -1 : 2);
        DUE.is("TROUBLES then", x.most(4), x.spot(0, 3) == 0 ? 0 : 1);
        return x.spot(0, 3);
    }

    private static void mostAndLeast() {
        DUE.says("SIZE of each more by GROWTH ..: 9 at most");
        DUE.is("8 and 1", grownBy(8, "y:1"), 9);
        DUE.is("9 and 1", grownBy(9, "y:1"), 9);
        DUE.is("1 and 8", grownBy(1, "y:8"), 9);
        DUE.is("1 and 7", grownBy(1, "y:7"), 8);
        DUE.says("0 or less: it is over");
        DUE.is("3 less 2", grownBy(3, "y:0-2"), 1);
        DUE.is("3 less 3", grownBy(3, "y:0-3"), 0);
        DUE.is("3 less 4", grownBy(3, "y:0-4"), 0);
        DUE.is("9 less 8", grownBy(9, "y:0-8"), 1);
        DUE.says("held within -9 .. 9");
        DUE.is("1 and 9", grownBy(1, "y:9"), 9);
        DUE.is("1 and 1,000,000", grownBy(1, "y:1000*1000"), 9);
        DUE.is("9 less 9", grownBy(9, "y:0-9"), 0);
        DUE.is("9 less 1,000,000", grownBy(9, "y:0-1000*1000"), 0);
    }

    private static void spreading() {
        DUE.says("a fire of 5 or more then SPREADS");
        String star = "pw99;pw9;p;pw9;l;la0b3";
        DUE.sizes("3 becomes 4", hourOf(star, 0, 0, 3), 4, 0, 0, 0);
        DUE.sizes("4 becomes 5", hourOf(star, 0, 0, 4), 5, 1, 0, 1);
        DUE.sizes("9 stays 9", hourOf(star, 0, 0, 9), 9, 1, 0, 1);
        DUE.kinds("fires", hourOf(star, 0, 0, 9), 0, 0, -1, 0);
        DUE.worths("they take nothing yet", hourOf(star, 0, 0, 4), 95, 9, 20, 9);
        BelievedOnce x = Due.town(star);
        Due.hold(x, "y:0-1");
        x.begin(0, 0, 5);
        x.hours(1);
        DUE.sizes("5 becomes 4", x, 4, 0, 0, 0);
        x.cry();
        x.begin(0, 0, 6);
        x.hours(1);
        DUE.sizes("6 becomes 5", x, 5, 1, 0, 1);
        DUE.says("in each PLACE beside it without a TROUBLE");
        for (int e = 0; e <= 4; e++) {
            String row = "se" + e + ";pw99;p;p;l;la1b2";
            DUE.sizes("one LANE far, with e" + e, hourOf(row, 0, 0, 4), 5, 1, 0);
        }
        x = Due.town(star);
        x.begin(0, 0, 8);
        x.begin(1, 2, 2);
        x.begin(3, 2, 1);
        x.hours(1);
        DUE.sizes("a flood is there, another was over in it", x, 9, 1, 0, 1);
        DUE.kinds("a flood is there, another was over in it", x, 0, 2, -1, 0);
        DUE.says("where WORTH is above 0, a fire of 1 begins");
        x = Due.town("pw99;pw1;pw1;l;lb2");
        x.begin(0, 0, 8);
        x.begin(2, 2, 1);
        x.hours(1);
        DUE.sizes("WORTH 1, and none", x, 9, 1, 0);
    }

    private static void notSpreading() {
        DUE.says("a fire of 5 or more: a thief, a flood do not");
        for (int kind = 1; kind < 3; kind++) {
            BelievedOnce x = Due.town("p;pw99;pw99;la1b2");
            Due.hold(x, "y:1");
            x.begin(1, kind, 8);
            x.hours(2);
            DUE.sizes("KIND " + kind, x, 0, 9, 0);
        }
        BelievedOnce x = Due.town("pw99;pw99;l");
        Due.hold(x, "y:0-9");
        x.begin(0, 0, 9);
        x.hours(1);
        DUE.sizes("a fire that is over", x, 0, 0);
        x.begin(0, 2, 9);
        x.hours(1);
        DUE.sizes("a flood where a fire was", x, 0, 0);
    }

    private static void allAtOnce() {
        DUE.says("a fire of 1 begins (all at once)");
        BelievedOnce x = Due.town("pw99;pw99;pw99;pw99;l;la1b2;la2b3");
        Due.hold(x, "y:9");
        x.begin(0, 0, 1);
        x.hours(1);
        DUE.sizes("one LANE far", x, 9, 1, 0, 0);
        x.hours(1);
        DUE.sizes("two LANES far", x, 9, 9, 1, 0);
        x = Due.town("pw99;pw99;pw99;pw99;la3b2;la2b1;l");
        Due.hold(x, "y:9");
        x.begin(3, 0, 1);
        x.hours(1);
        DUE.sizes("one LANE far the other way", x, 0, 0, 1, 9);
        x = Due.town("pw99;pw99;pw99;l;la1b2");
        x.begin(0, 0, 4);
        x.begin(2, 0, 4);
        x.hours(1);
        DUE.sizes("two beside it: one fire", x, 5, 1, 5);
        x = hourOf("pw99;p;p;p;p;p;p;p;l;lb2;lb3;lb4;lb5;lb6;lb7", 0, 0, 4);
        DUE.sizes("to all others", x, 5, 1, 1, 1, 1, 1, 1, 1);
        x = hourOf("p;p;p;p;p;p;p;pw99;la7b0", 7, 0, 4);
        DUE.sizes("from the last to the first", x, 1, 0, 0, 0, 0, 0, 0, 5);
    }

    private static void logRows() {
        DUE.says("the LOG: what was lost in it, TROUBLES then (PLACES, bits), where he stands");
        BelievedOnce x = Due.town("pw50;pw50;pw3;l;la1b2");
        x.begin(0, 0, 4);
        x.begin(2, 2, 9);
        x.walk(1);
        x.hours(1);
        DUE.logRow(x, 0, 4 + 3, 1 | 2 | 4, 1);
        x.walk(0);
        x.cry();
        DUE.logRow(x, 0, 7, 7, 1);
        x.hours(1);
        DUE.logRow(x, 0, 0, 4, 0);
        DUE.logRow(x, 1, 7, 7, 1);
        DUE.says("LOG, the latest (i 0), the one ahead of it (1) ..: .. NONE: no such ones");
        DUE.is("count(7)", x.count(7), 2);
        int[] none = {2, -1, 60, Integer.MIN_VALUE, FAR};
        for (int i : none) {
            DUE.logRow(x, i, -1, -1, -1);
        }
        int[] noWhat = {-1, 3, Integer.MIN_VALUE, FAR};
        for (int what : noWhat) {
            DUE.is("log(0, " + what + ")", x.log(0, what), -1);
        }
    }

    private static void latestSixty() {
        DUE.says("the LOG .. (the latest 60)");
        BelievedOnce x = Due.town("pw99;p;l");
        Due.hold(x, "y:h=0?1;y:0");
        x.begin(0, 1, 1);
        x.hours(1);
        x.walk(1);
        DUE.is("hours(58)", x.hours(58), 59);
        DUE.is("count(7)", x.count(7), 59);
        DUE.is("log(59, 0)", x.log(59, 0), -1);
        x.hours(1);
        DUE.is("count(7)", x.count(7), 60);
        DUE.logRow(x, 59, 1, 1, 0);
        DUE.logRow(x, 58, 2, 1, 1);
        DUE.logRow(x, 60, -1, -1, -1);
        x.hours(1);
        DUE.is("count(7)", x.count(7), 60);
        DUE.logRow(x, 59, 2, 1, 1);
        DUE.logRow(x, 60, -1, -1, -1);
        DUE.is("undo()", x.undo(), 39);
        DUE.is("count(7)", x.count(7), 60);
        DUE.logRow(x, 59, 1, 1, 0);
        x.hours(60);
        DUE.is("count(7)", x.count(7), 60);
        DUE.logRow(x, 59, 0, 1, 1);
    }

    private static void legsAgain() {
        DUE.says("LEGS are full again (as told)");
        for (int g = 1; g <= 5; g++) {
            BelievedOnce x = Due.town("sg" + g + ";p;p;l");
            for (int i = 1; i <= g; i++) {
                DUE.is("walk", x.walk(i % 2), g - i);
            }
            DUE.is("walk without LEGS", x.walk((g + 1) % 2), -1);
            DUE.is("hours(1)", x.hours(1), 1);
            DUE.is("LEGS", x.rule(0), g);
            x.hours(1);
            DUE.is("LEGS", x.rule(0), g);
        }
    }

    private static BelievedOnce nearTheEnd() {
        BelievedOnce x = Due.town("pw99;pw99;l");
        for (int i = 0; i < 166; i++) {
            x.hours(60);
        }
        return x;
    }

    private static void lastHour() {
        DUE.says("9,999 at most: none goes by then");
        BelievedOnce x = nearTheEnd();
        DUE.is("hours(38)", x.hours(38), 9998);
        DUE.is("hours(2)", x.hours(2), -1);
        DUE.is("the HOUR", x.count(4), 9998);
        DUE.is("hours(1)", x.hours(1), 9999);
        String before = Due.told(x);
        DUE.is("hours(1)", x.hours(1), -1);
        DUE.is("hours(60)", x.hours(60), -1);
        DUE.same("what is told", Due.told(x), before);
        DUE.statuses("beyond the last HOUR (4)", x, 0, 0, 0, 0, 3);
        x = nearTheEnd();
        DUE.is("hours(40)", x.hours(40), -1);
        DUE.is("hours(39)", x.hours(39), 9999);
    }
}
