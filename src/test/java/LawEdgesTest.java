/** LAWS (promises 4, 5 and 9): a test for each sentence that names a boundary case. */
public final class LawEdgesTest {
    private static final Due DUE = new Due();
    private static final String DIGITS = "0123456789";
    private static final String ATOMS = "zkwdnh" + DIGITS;
    private static final String MILLION = "1000*1000";

    public static void main(String[] args) {
        clauses();
        wrongBytes();
        digits();
        conditions();
        sixDeep();
        sevenDeep();
        besideOneAnother();
        blanks();
        earlyEnds();
        heldNumbers();
        division();
        comparisons();
        firstThatHolds();
        fourLaws();
        faultTakesNothing();
        whichHolds();
        letters();
        hoursOfTheDay();
        longLaws();
        DUE.close("LawEdgesTest");
    }

    private static void clauses() {
        DUE.says("CLAUSES with ; between, one at least");
        DUE.fault(1, "", 0);
        DUE.fault(1, "y:1", -1);
        DUE.fault(1, "y:1;", 4);
        DUE.fault(1, ";y:1", 0);
        DUE.fault(1, "y:1;;y:1", 4);
        DUE.fault(1, "y:1,y:1", 3);
        DUE.fault(1, "y:1" + ";y:1".repeat(59), -1);
    }

    private static void wrongBytes() {
        DUE.says("the first byte at which no such TEXT can go on");
        DUE.next(1, "", "", "y ");
        DUE.next(1, "y", "", ": ");
        DUE.next(1, "y:", ATOMS, "[!( ");
        DUE.next(1, "y:z", " ", "+-*/=<>;");
        DUE.next(1, "y:z ", " ", "+-*/=<>;");
        DUE.next(1, "y:1", " " + DIGITS, "+-*/=<>;");
        DUE.next(1, "y:1 ", " ", "+-*/=<>;");
        DUE.next(1, "y:1234", " ", "+-*/=<>;");
        DUE.next(1, "y:z+", ATOMS, "[ ");
        DUE.next(1, "y:z-", ATOMS, "[ ");
        DUE.next(1, "y:z*", ATOMS, "[ ");
        DUE.next(1, "y:z/", ATOMS, "[ ");
        DUE.next(1, "y:z+z", " ", "+-*/=<>;");
        DUE.next(1, "y:z*z", " ", "+-*/=<>;");
        DUE.next(1, "y:z=", "", ATOMS + "[ ");
        DUE.next(1, "y:z<", "", ATOMS + "[ ");
        DUE.next(1, "y:z>", "", ATOMS + "[ ");
        DUE.next(1, "y:z=1", "", DIGITS + "+-*/&|? ");
        DUE.next(1, "y:z=z", "", "+-*/&|? ");
        DUE.next(1, "y:z=z+", "", ATOMS + "[ ");
        DUE.next(1, "y:z=z&", "", ATOMS + "[!( ");
        DUE.next(1, "y:z=z|", "", ATOMS + "[!( ");
        DUE.next(1, "y:!", "", ATOMS + "[!( ");
        DUE.next(1, "y:!z", "", "+-*/=<> ");
        DUE.next(1, "y:!z=z", "", "+-*/&|? ");
        DUE.next(1, "y:(", "", ATOMS + "[!( ");
        DUE.next(1, "y:(z", "", "+-*/=<> ");
        DUE.next(1, "y:(z=z", "", "+-*/&|) ");
        DUE.next(1, "y:(z=z&", "", ATOMS + "[!( ");
        DUE.next(1, "y:(z=z)", "", "&|? ");
        DUE.next(1, "y:(z=[z]", "", "+-*/&|) ");
        DUE.next(1, "y:[", "", ATOMS + "[ ");
        DUE.next(1, "y:[z", "]", "+-*/ ");
        DUE.next(1, "y:[z]", " ", "+-*/=<>;");
        DUE.next(1, "y:z=[z", "", "+-*/] ");
        DUE.next(1, "y:z=z?", ATOMS, "[ ");
        DUE.next(1, "y:z=z?z", " ", "+-*/;");
        DUE.next(1, "y:z=z?[z", "]", "+-*/ ");
        DUE.next(1, "y:z=z?[z]", " ", "+-*/;");
        DUE.next(1, "y:z;", "", "y ");
        DUE.next(1, "y:z;y", "", ": ");
    }

    private static void digits() {
        DUE.says("a number (1 to 4 digits)");
        DUE.fault(1, "y:0", -1);
        DUE.fault(1, "y:99", -1);
        DUE.fault(1, "y:007", -1);
        DUE.fault(1, "y:9999", -1);
        DUE.fault(1, "y:0000", -1);
        DUE.says("a third digit (a fifth one in a LAW) itself, whatever stands ahead of it");
        DUE.fault(1, "y:00000", 6);
        DUE.fault(1, "y:99999", 6);
        DUE.fault(1, "y:123456", 6);
        DUE.fault(1, "y:z+12345", 8);
        DUE.fault(1, "y:z=12345?1", 8);
        DUE.fault(1, "y:z=1?12345", 10);
        DUE.fault(1, "y:[12345]", 7);
        DUE.fault(1, "y:!12345=1?1", 7);
        DUE.is("four digits count", told("1234=1233+1"), true);
        DUE.is("a 0 ahead counts nothing", told("0012=12"), true);
    }

    private static void conditions() {
        DUE.says("perhaps CONDITION ?, then SUM");
        DUE.fault(1, "y:z=1?1", -1);
        DUE.fault(1, "y:z=1", 5);
        DUE.fault(1, "y:z=1;y:1", 5);
        DUE.fault(1, "y:z=1?", 6);
        DUE.fault(1, "y:z=1?;y:1", 6);
        DUE.fault(1, "y:?1", 2);
        DUE.fault(1, "y:1?1", 3);
        DUE.fault(1, "y:z=1?1?1", 7);
        DUE.fault(1, "y:z=1?z=1", 7);
        DUE.says("SUM, one of = < >, SUM");
        DUE.fault(1, "y:z=1=1?1", 5);
        DUE.fault(1, "y:z<=1?1", 4);
        DUE.fault(1, "y:z<>1?1", 4);
        DUE.fault(1, "y:z==1?1", 4);
        DUE.says("A CLAUSE that goes on with ! or ( behind its : has a CONDITION");
        DUE.fault(1, "y:!z", 4);
        DUE.fault(1, "y:!z;y:1", 4);
        DUE.fault(1, "y:(z)", 4);
        DUE.fault(1, "y:(z+1)*2", 6);
        DUE.fault(1, "y:(z=1)", 7);
        DUE.fault(1, "y:(z=1);y:1", 7);
        DUE.fault(1, "y:(z=1)=1?1", 7);
        DUE.fault(1, "y:(z=1)+1", 7);
        DUE.fault(1, "y: ! z=1?1", -1);
        DUE.fault(1, "y: ( z=1)?1", -1);
        DUE.fault(1, "y:1;y:(1)", 8);
    }

    /** A UNIT within the signs, the innermost last. */
    private static String nested(String signs) {
        if (signs.isEmpty()) {
            return "z=1";
        }
        String inner = signs.substring(1);
        switch (signs.charAt(0)) {
            case '!': return "!" + nested(inner);
            case '(': return "(" + nested(inner) + ")";
            default: return signs + "z" + "]".repeat(signs.length()) + "=1";
        }
    }

    /** All rows of so many ! and ( with [ behind them. */
    private static String row(int number, int length, int brackets) {
        StringBuilder signs = new StringBuilder();
        for (int i = 0; i < length - brackets; i++) {
            signs.append((number >> i & 1) == 1 ? '(' : '!');
        }
        return signs.append("[".repeat(brackets)).toString();
    }

    private static void sixDeep() {
        DUE.says("At most six of ( [ ! within one another");
        for (int length = 0; length <= 6; length++) {
            for (int brackets = 0; brackets <= length; brackets++) {
                for (int number = 0; number < 1 << length - brackets; number++) {
                    DUE.fault(1, "y:" + nested(row(number, length, brackets)) + "?1", -1);
                }
            }
        }
        DUE.fault(1, "y:[[[[[[z]]]]]]", -1);
        DUE.fault(1, "y:z=1?[[[[[[z]]]]]]", -1);
        DUE.fault(1, "y:z=[[[[[[z]]]]]]?1", -1);
        DUE.is("six ! around a truth", told("!!!!!!z=1"), true);
        DUE.is("five ! around a truth", told("!!!!!z=1"), false);
        DUE.is("six deep by turns", told("!(!(!(z=1)))"), false);
        DUE.is("six [", told("[1+[1+[1+[1+[1+[1+z]]]]]]=7"), true);
    }

    private static void sevenDeep() {
        DUE.says("a seventh of ( [ ! at it");
        for (int brackets = 0; brackets <= 7; brackets++) {
            for (int number = 0; number < 1 << 7 - brackets; number++) {
                DUE.fault(1, "y:" + nested(row(number, 7, brackets)) + "?1", 8);
            }
        }
        DUE.fault(1, "y:[[[[[[[z]]]]]]]", 8);
        DUE.fault(1, "y:z=1?[[[[[[[z]]]]]]]", 12);
        DUE.fault(1, "y:z=[[[[[[[z]]]]]]]?1", 10);
        DUE.fault(1, "y:[[[[[[z+[", 10);
        DUE.fault(1, "y:!!!!!!z=[1]?1", 10);
        DUE.fault(1, "y:((((((z=1|(z=1)))))))?1", 12);
        DUE.fault(1, "y:((((((z=1&!z=1))))))?1", 12);
        DUE.fault(1, "y:((((((z=1+[1]))))))?1", 12);
    }

    private static void besideOneAnother() {
        DUE.says("At most six .. within one another: those beside one another are free");
        DUE.fault(1, "y:[z]+[z]+[z]+[z]+[z]+[z]+[z]", -1);
        DUE.fault(1, "y:[[[[[[z]]]]]]*[[[[[[z]]]]]]", -1);
        DUE.fault(1, "y:!z=1&!z=1&!z=1&!z=1&!z=1&!z=1&!z=1?1", -1);
        DUE.fault(1, "y:!!!!!!z=1|!!!!!!z=1&((((((z=1))))))?[[[[[[1]]]]]]", -1);
        DUE.fault(1, "y:(z=1)&(z=1)|(z=1)&(z=1)|(z=1)&(z=1)|(z=1)?1", -1);
        DUE.fault(1, "y:[[[[[[z]]]]]]=1&[[[[[[z]]]]]]=[[[[[[z]]]]]]?1;y:[[[[[[z]]]]]]", -1);
        DUE.fault(1, "y:(((((z=1)&(z=1)))))?1", -1);
    }

    private static void blanks() {
        DUE.says("Blanks (32) may stand between all signs of both, not within numbers");
        DUE.fault(1, "  y : ( ! z = 12 | [ k + 1 ] < 3 ) & w > 4 ? h * 2 ; y : 0 ", -1);
        DUE.fault(1, "y:1 2", 4);
        DUE.fault(1, "y:z=1 2?1", 6);
        DUE.fault(1, "y:\t1", 2);
        DUE.fault(1, "y:1" + (char) 160, 3);
    }

    private static void earlyEnds() {
        DUE.says("the length, if it ends too early");
        String[] early = {"", "  ", "y", "y ", "y:", "y: ", "y:z+", "y:z*", "y:z=", "y:z=1", "y:z=1 ", "y:z=1?", "y:!",
            "y:!z", "y:(", "y:(z=1", "y:(z=1)", "y:[", "y:[z", "y:z;", "y:z; y", "y:z=1&", "y:z=1|", "y:z=1?[z"};
        for (String text : early) {
            DUE.fault(1, text, text.length());
        }
    }

    /** Whether the CONDITION holds for a fire of 1, in the first HOUR, at PLACE 0 with 20. */
    private static boolean told(String condition) {
        BelievedOnce x = Due.town("pw21;p;l");
        Due.hold(x, "y:" + condition + "?2;y:1");
        x.begin(0, 0, 1);
        x.hours(1);
        int size = x.spot(0, 3);
        DUE.is("SIZE by " + condition, size == 2 || size == 3, true);
        return size == 3;
    }

    private static void hold(String condition) {
        DUE.is(condition, told(condition), true);
    }

    private static void heldNumbers() {
        DUE.says("Behind each sign numbers are within -1,000,000 .. 1,000,000");
        hold(MILLION + "+1=" + MILLION);
        hold(MILLION + "+9999=" + MILLION);
        hold(MILLION + "-1<" + MILLION);
        hold(MILLION + "-1+1=" + MILLION);
        hold(MILLION + "+1-1=" + MILLION + "-1");
        hold("[" + MILLION + "+" + MILLION + "]-" + MILLION + "=0");
        hold("0-" + MILLION + "-1=0-" + MILLION);
        hold("0-" + MILLION + "+1>0-" + MILLION);
        hold("0-" + MILLION + "-1+1=0-" + MILLION + "+1");
        hold("9999*9999=" + MILLION);
        hold("1001*1000=" + MILLION);
        hold("9999*100=9999*99+9999");
        hold("999*1001=999*1000+999");
        hold("[0-9999]*9999=0-" + MILLION);
        hold("[0-1001]*1000=0-" + MILLION);
        hold("[0-999]*1001>0-" + MILLION);
        hold("9999*9999/9999=100");
        hold("9999*9999*9999/1000=1000");
        hold("[0-9999]*9999*9999/1000=0-1000");
        hold("[0-9999]*9999*[0-9999]=" + MILLION);
        hold(MILLION + "*[0-1]=0-" + MILLION);
        hold(MILLION + "*1000*1000=" + MILLION);
    }

    private static void division() {
        DUE.says("/ cuts towards 0");
        hold("7/2=3");
        hold("[0-7]/2=0-3");
        hold("7/[0-2]=0-3");
        hold("[0-7]/[0-2]=3");
        hold("1/2=0");
        hold("[0-1]/2=0");
        hold("6/3=2");
        hold("[0-6]/3=0-2");
        hold("7/2*2=6");
        DUE.says("by 0 gives 0");
        hold("7/0=0");
        hold("0/0=0");
        hold("[0-7]/0=0");
        hold("7/[z-z]=0");
        hold("7/[1/2]=0");
        hold("5+7/0*3=5");
    }

    private static void comparisons() {
        DUE.says("one of = < >");
        hold("2=2");
        hold("!2=3&!3=2");
        hold("2<3");
        hold("!2<2&!3<2");
        hold("3>2");
        hold("!2>2&!2>3");
        String[] truths = {"2=2", "2<3", "3>2"};
        for (String truth : truths) {
            DUE.is("!" + truth, told("!" + truth), false);
            hold("!!" + truth);
            hold("1=1&" + truth);
            hold(truth + "&1=1");
            hold("1=2|" + truth);
            DUE.is("1=2&" + truth, told("1=2&" + truth), false);
        }
        DUE.says("CONDITION: TRUTHS with | between; TRUTH: UNITS with & between");
        hold("1=1|1=1&1=2");
        hold("1=2&1=1|1=1");
        hold("!(1=1|1=2)&1=2|1=1");
        hold("!(1=2|1=3|1=4)");
        hold("1=2|1=3|1=1");
        hold("!(1=1&1=1&1=2)");
        hold("1=1&1=1&1=1");
    }

    private static int grown(String law) {
        BelievedOnce x = Due.town("pw21;p;l");
        Due.hold(x, law);
        x.begin(0, 0, 3);
        x.hours(1);
        return x.spot(0, 3);
    }

    private static void firstThatHolds() {
        DUE.says("the SUM of the first CLAUSE whose CONDITION holds (or has none), 0 without");
        DUE.is("the first of two", grown("y:z=3?1;y:z=3?2"), 4);
        DUE.is("the second of two", grown("y:z=2?1;y:z=3?2"), 5);
        DUE.is("one without ahead", grown("y:1;y:z=3?2"), 4);
        DUE.is("one without behind", grown("y:z=2?1;y:2"), 5);
        DUE.is("the last of four", grown("y:z=1?1;y:z=2?1;y:z=4?1;y:z=3?0-2;y:1"), 1);
        DUE.is("none", grown("y:z=2?1"), 3);
        DUE.is("none of two", grown("y:z=2?1;y:z=4?0-9"), 3);
    }

    private static void fourLaws() {
        DUE.says("LAWS (4 at most)");
        BelievedOnce x = new BelievedOnce();
        for (int i = 0; i < 4; i++) {
            Due.lay(x, "y:" + i);
            DUE.is("text(1): its number", x.text(1), i);
            DUE.is("the TAPE is empty", x.count(2), 0);
            DUE.is("LAWS", x.count(1), i + 1);
        }
        DUE.says("NONE: .. there are four LAWS");
        Due.lay(x, "y:7");
        DUE.is("fault(1)", x.fault(1), -1);
        DUE.is("text(1)", x.text(1), -1);
        DUE.is("the TAPE stays", x.count(2), 3);
        DUE.is("LAWS", x.count(1), 4);
        Due.lay(x, "y:");
        DUE.is("fault(1)", x.fault(1), 2);
        DUE.is("text(1)", x.text(1), -1);
        Due.lay(x, "p;p");
        DUE.is("text(0)", x.text(0), 2);
        DUE.is("law(3)", x.law(3), true);
        Due.lay(x, "y:9");
        DUE.is("fault(1) of a fifth LAW", x.fault(1), -1);
        x.begin(0, 2, 1);
        x.hours(1);
        DUE.is("the fourth is as it was", x.spot(0, 3), 4);
    }

    private static void faultTakesNothing() {
        DUE.says("The FAULT of the TAPE as .. a LAW (1)");
        BelievedOnce x = Due.town("p;p");
        Due.lay(x, "y:5");
        DUE.is("fault(1)", x.fault(1), -1);
        DUE.is("LAWS", x.count(1), 0);
        Due.lay(x, "y:z>0?4;");
        DUE.is("fault(1)", x.fault(1), 8);
        DUE.is("text(1)", x.text(1), -1);
        Due.hold(x, "y:2");
        x.begin(0, 2, 1);
        x.hours(1);
        DUE.is("SIZE by what was taken", x.spot(0, 3), 3);
    }

    private static void whichHolds() {
        DUE.says("The LAW that holds (NONE: none). False: no such one");
        BelievedOnce x = Due.town("p;p");
        DUE.is("law(0) of none", x.law(0), false);
        DUE.is("law(NONE) of none", x.law(-1), true);
        Due.lay(x, "y:3");
        x.text(1);
        DUE.is("a LAW that is told does not hold yet", x.count(3), -1);
        Due.lay(x, "y:5");
        x.text(1);
        int[] wrong = {2, 3, 4, -2, Integer.MIN_VALUE, Integer.MAX_VALUE};
        DUE.is("law(1)", x.law(1), true);
        for (int law : wrong) {
            DUE.is("law(" + law + ")", x.law(law), false);
            DUE.is("count(3)", x.count(3), 1);
        }
        DUE.is("law(1) again", x.law(1), true);
        x.begin(0, 2, 1);
        x.hours(1);
        DUE.is("SIZE by the LAW 1", x.spot(0, 3), 6);
        x.undo();
        DUE.is("law(0)", x.law(0), true);
        x.hours(1);
        DUE.is("SIZE by the LAW 0", x.spot(0, 3), 4);
        x.undo();
        DUE.is("law(NONE)", x.law(-1), true);
        DUE.is("count(3)", x.count(3), -1);
        x.hours(1);
        DUE.is("SIZE by none", x.spot(0, 3), 0);
        DUE.statuses("no STATUS", x, 0, 0, 0, 0, 0);
    }

    private static void letters() {
        DUE.says("z SIZE, k KIND, w WORTH of its PLACE, d STEPS .., n how many PLACES beside it have a TROUBLE");
        String row = "pw30;pw30;pw30;p;l;la1b0;lb2";
        for (int kind = 0; kind < 3; kind++) {
            BelievedOnce x = Due.town(row);
            Due.hold(x, "y:k=" + kind + "&z=2&w=28&d=0&n=0&h=0?5;y:0-9");
            x.begin(0, kind, 2);
            x.begin(3, kind, 2);
            x.hours(1);
            DUE.is("KIND " + kind, x.spot(0, 3), 7);
            DUE.is("where there is no way", x.spot(3, 3), 0);
        }
        BelievedOnce x = Due.town(row);
        Due.hold(x, "y:d=99?5;y:n=2?3;y:n=1?0-1;y:0");
        for (int p = 0; p < 4; p++) {
            x.begin(p, 1, 2);
        }
        x.hours(1);
        DUE.sizes("n counts each PLACE beside once, d is 99 without a way", x, 5, 1, 1, 7);
        x = Due.town("pw2;pw1");
        Due.hold(x, "y:w=0?5;y:w=1?6");
        x.begin(0, 1, 1);
        x.begin(1, 1, 1);
        x.hours(1);
        DUE.sizes("w is WORTH behind what was taken", x, 7, 6);
    }

    private static void hoursOfTheDay() {
        DUE.says("h the HOUR modulo 24");
        BelievedOnce x = Due.town("p;p");
        Due.hold(x, "y:h=0?1;y:h=1?2;y:h=23?3;y:0");
        x.begin(0, 2, 1);
        int[] hours = {1, 1, 21, 1, 1, 1, 21, 1, 1};
        int[] sizes = {2, 4, 4, 7, 8, 9, 9, 9, 9};
        for (int i = 0; i < hours.length; i++) {
            x.hours(hours[i]);
            DUE.is("SIZE at HOUR " + x.count(4), x.spot(0, 3), sizes[i]);
        }
        x = Due.town("p;p");
        Due.hold(x, "y:h>23?9;y:h=23?0-9;y:0");
        x.begin(0, 2, 1);
        DUE.is("hours(48)", x.hours(48), 48);
        DUE.is("over at the end of HOUR 23", x.log(25, 1), 1);
        DUE.is("over at the end of HOUR 23", x.log(24, 1), 0);
    }

    private static void longLaws() {
        DUE.says("NONE: more than 240 (a LAW as long as the TAPE)");
        StringBuilder law = new StringBuilder("y:1");
        for (int i = 0; i < 118; i++) {
            law.append(i % 2 == 0 ? "+z" : "-z");
        }
        law.append(' ');
        DUE.is("bytes", law.length(), 240);
        DUE.fault(1, law.toString(), -1);
        DUE.is("SIZE", grown(law.toString()), 4);
        String many = "y:z=1?9" + ";y:z=2?9".repeat(27) + ";y:z=3?2" + ";y:1  ";
        DUE.fault(1, many, -1);
        DUE.is("SIZE", grown(many), 5);
        DUE.says("At most six .. within one another (with as much as can stand ahead of each)");
        StringBuilder waiting = new StringBuilder();
        for (int i = 0; i < 6; i++) {
            waiting.append("1=2|1=1&(");
        }
        waiting.append("1=2|1=1&1+2*3=7").append("))))))");
        hold(waiting.toString());
        hold("1=2|1=1&0+1*[0+1*[0+1*[0+1*[0+1*[0+1*z]]]]]=0+1*[0+1*[0+1*[0+1*[0+1*[0+1*1]]]]]");
        String deep = "y:[1+[1+[1+[1+[1+[z*2]]]]]]+[0-9]*[1-1/2*[2+3*[4-5*[6+7*[8]]]]]";
        DUE.is("3 and (5 + 6 - 9)", grown(deep), 5);
    }
}
