/** The TAPE and the TOWN (promises 2 to 5): a test for each sentence that names a boundary case. */
public final class TownEdgesTest {
    private static final Due DUE = new Due();
    private static final String DIGITS = "0123456789";
    private static final String EIGHT = "p;p;p;p;p;p;p;p;";
    private static final int FOUR = 0x20202020;
    // Letter, its CLAUSE, least and most, as part 1 of the Terms tells them.
    private static final String[] LETTERS = {"g", "e", "k", "w", "o", "a", "b"};
    private static final String[] CLAUSES = {"s", "s", "s", "p", "p", "l", "l"};
    private static final int[] LEAST = {1, 0, 0, 1, 0, 0, 0};
    private static final int[] MOST = {5, 4, 99, 99, 9, 7, 7};

    public static void main(String[] args) {
        feeding();
        fullTape();
        ends();
        sorts();
        clauseOrder();
        howManyClauses();
        usualItems();
        boundsOfItems();
        thirdDigits();
        lettersTwice();
        wrongBytes();
        blanks();
        badLanes();
        earlyEnds();
        firstFault();
        takenTown();
        anotherTown();
        DUE.close("TownEdgesTest");
    }

    private static void feeding() {
        DUE.says("of each number the highest first");
        BelievedOnce x = new BelievedOnce();
        DUE.is("feed of po9;pw12", x.feed(0x706f393b, 0x70773132, 0, 0, 0), 8);
        DUE.is("text(0)", x.text(0), 2);
        DUE.is("spot(0, 1)", x.spot(0, 1), 9);
        DUE.is("spot(1, 0)", x.spot(1, 0), 12);
        x = new BelievedOnce();
        DUE.is("feed of all twenty bytes", x.feed(0x70773131, 0x3b707732, 0x323b7077, 0x33333b70, 0x77343420), 20);
        DUE.is("text(0)", x.text(0), 4);
        DUE.worths("in order", x, 11, 22, 33, 44);
        DUE.says("bytes of 0 are left out");
        x = new BelievedOnce();
        DUE.is("feed of zeros", x.feed(0, 0, 0, 0, 0), 0);
        DUE.is("feed with zeros between", x.feed(0x00700000, 0x3b000070, 0, 0x77000037, 0x00003800), 6);
        DUE.is("text(0)", x.text(0), 2);
        DUE.is("spot(1, 0)", x.spot(1, 0), 78);
        DUE.is("feed of 255 and 128", x.feed(0xff000080, 0, 0, 0, -128), 6);
        DUE.is("fault(0)", x.fault(0), 0);
    }

    private static BelievedOnce blankTape(int length) {
        BelievedOnce x = new BelievedOnce();
        for (int i = 0; i < 12; i++) {
            x.feed(FOUR, FOUR, FOUR, FOUR, FOUR);
        }
        x.end(length);
        return x;
    }

    private static void fullTape() {
        DUE.says("how many it has. NONE: more than 240");
        BelievedOnce x = new BelievedOnce();
        for (int i = 1; i <= 12; i++) {
            DUE.is("feed", x.feed(FOUR, FOUR, FOUR, FOUR, FOUR), 20 * i);
        }
        DUE.is("feed of a 241st byte", x.feed(0, 0, 32, 0, 0), -1);
        DUE.is("feed of no byte", x.feed(0, 0, 0, 0, 0), 240);
        DUE.is("to 240", blankTape(220).feed(FOUR, FOUR, FOUR, FOUR, FOUR), 240);
        DUE.is("to 241", blankTape(221).feed(FOUR, FOUR, FOUR, FOUR, FOUR), -1);
        DUE.is("to 240 but for a 0", blankTape(221).feed(FOUR, FOUR, FOUR, FOUR, 0x20200020), 240);
        x = blankTape(238);
        DUE.is("to 241", x.feed(0x20200000, 32, 0, 0, 0), -1);
        DUE.is("none of them came", x.count(2), 238);
        x = blankTape(0);
        String town = "p;p" + " ".repeat(236) + " ";
        Due.lay(x, town);
        DUE.is("fault(0) of 240 bytes", x.fault(0), -1);
        x.end(239);
        x.feed('x', 0, 0, 0, 0);
        DUE.is("fault(0) at the 240th byte", x.fault(0), 239);
    }

    private static void ends() {
        DUE.says("The TAPE has its first n bytes alone. False: n");
        BelievedOnce x = new BelievedOnce();
        DUE.is("end(0) of an empty TAPE", x.end(0), true);
        DUE.is("end(1) of an empty TAPE", x.end(1), false);
        Due.lay(x, "pw7;po5");
        int[] refused = {-1, 8, 240, Integer.MIN_VALUE, Integer.MAX_VALUE};
        for (int n : refused) {
            DUE.is("end(" + n + ")", x.end(n), false);
            DUE.is("count(2)", x.count(2), 7);
        }
        DUE.is("end(7), all of it", x.end(7), true);
        DUE.is("count(2)", x.count(2), 7);
        DUE.is("end(5)", x.end(5), true);
        DUE.is("count(2)", x.count(2), 5);
        DUE.is("end(6)", x.end(6), false);
        DUE.is("feed behind them", x.feed(0x77380000, 0, 0, 0, 0), 7);
        DUE.is("text(0) of pw7;pw8", x.text(0), 2);
        DUE.worths("by pw7;pw8", x, 7, 8);
        DUE.is("end(1): the TAPE is empty", x.end(1), false);
    }

    private static void sorts() {
        DUE.says("NONE: none. -2: no such sort");
        int[] none = {-1, 2, 3, Integer.MIN_VALUE, Integer.MAX_VALUE};
        BelievedOnce x = new BelievedOnce();
        Due.lay(x, "p;p");
        for (int sort : none) {
            DUE.is("fault(" + sort + ")", x.fault(sort), -2);
        }
        DUE.is("fault(0)", x.fault(0), -1);
        DUE.is("fault(1)", x.fault(1), 0);
        DUE.says("NONE: a FAULT, no such sort");
        for (int sort : none) {
            DUE.is("text(" + sort + ")", x.text(sort), -1);
        }
        DUE.is("text(1)", x.text(1), -1);
        DUE.counts("refused", x, 0, 0, 3, -1, 0, 2, 0, 0, 0);
        x.end(2);
        DUE.is("text(0)", x.text(0), -1);
        DUE.counts("refused", x, 0, 0, 2, -1, 0, 2, 0, 0, 0);
    }

    private static void clauseOrder() {
        DUE.says("in any order");
        BelievedOnce x = Due.town("la2b1;pw5;l;pw6;sg3;pw7");
        DUE.worths("numbers in the order told", x, 5, 6, 7);
        int[] beside = {2, 5, 2};
        for (int p = 0; p < 3; p++) {
            DUE.is("spot(" + p + ", 4)", x.spot(p, 4), beside[p]);
        }
        DUE.is("LEGS", x.rule(0), 3);
        DUE.fault(0, "s;l;p;p", -1);
        DUE.fault(0, "l;s;p;p", -1);
        DUE.fault(0, "p;l;p;s", -1);
        DUE.fault(0, "p;p;s;l", -1);
    }

    private static void howManyClauses() {
        DUE.says("s (its RULES; one at most)");
        DUE.fault(0, "p;p", -1);
        DUE.fault(0, "s;p;p", -1);
        DUE.says("a second s at it");
        DUE.fault(0, "s;p;s;p", 4);
        DUE.fault(0, "s;s", 2);
        DUE.fault(0, "p;p;sg1; s", 9);
        DUE.says("p (a PLACE; 2 .. 8)");
        DUE.fault(0, "p", 1);
        for (int n = 2; n <= 8; n++) {
            String text = EIGHT.substring(0, 2 * n - 1);
            DUE.fault(0, text, -1);
            BelievedOnce x = Due.town(text);
            DUE.is("count(0)", x.count(0), n);
            DUE.is("spot of the last", x.spot(n - 1, 0), 20);
            DUE.noSuchSpot(x, n, 0);
        }
        DUE.says("a ninth p at it");
        DUE.fault(0, EIGHT + "p", 16);
        DUE.fault(0, EIGHT + "s; pw100", 19);
        DUE.says("l (a LANE; none to 12)");
        DUE.fault(0, "p;p" + ";l".repeat(11), -1);
        DUE.fault(0, "p;p" + ";l".repeat(12), -1);
        BelievedOnce x = Due.town("p;p;p;p;p;p;p;p;l;lb2;lb3;lb4;lb5;lb6;lb7;la1b2;la1b3;la1b4;la1b5;la7b6");
        DUE.is("the 12th LANE", x.spot(7, 4), 1 | 64);
        DUE.says("a 13th l at it");
        DUE.fault(0, "p;p" + ";l".repeat(12) + "; l", 29);
        DUE.fault(0, "l;".repeat(12) + "p;lx", 26);
        DUE.says("a second s, a ninth p, a 13th l .. at it");
        String full = "s;" + EIGHT + "l;".repeat(12);
        DUE.fault(0, full.substring(0, 41), -1);
        DUE.fault(0, full + "s", 42);
        DUE.fault(0, full + "p", 42);
        DUE.fault(0, full + " l", 43);
    }

    private static void usualItems() {
        DUE.says("g LEGS (1 .. 5; 2 without), e how far he SEES (0 .. 4; 1), k COINS (0 .. 99; 20)");
        DUE.rules("without s", Due.town("p;p"), 2, 1, 20, 3, 0, 0);
        DUE.rules("s alone", Due.town("s;p;p"), 2, 1, 20, 3, 0, 0);
        DUE.rules("sg5", Due.town("sg5;p;p"), 5, 1, 20, 3, 0, 0);
        DUE.rules("se0", Due.town("p;se0;p"), 2, 0, 20, 3, 0, 0);
        DUE.rules("sk0", Due.town("p;p;sk0"), 2, 1, 0, 3, 0, 0);
        DUE.says("w WORTH (1 .. 99; 20), o ODDS of a call (0 .. 9; 1)");
        BelievedOnce x = Due.town("pw7o8;p;po3;pw9");
        int[] worths = {7, 20, 20, 9};
        int[] likely = {8, 1, 3, 1};
        for (int p = 0; p < 4; p++) {
            DUE.is("spot(" + p + ", 0)", x.spot(p, 0), worths[p]);
            DUE.is("spot(" + p + ", 1)", x.spot(p, 1), likely[p]);
        }
        DUE.says("a, b two PLACES (0 .. 7; 0, 1)");
        DUE.is("l", Due.town("p;p;p;p;l").spot(0, 4), 2);
        DUE.is("lb3", Due.town("p;p;p;p;lb3").spot(0, 4), 8);
        DUE.is("la3", Due.town("p;p;p;p;la3").spot(1, 4), 8);
        DUE.is("lb2 behind la3", Due.town("p;p;p;p;la3b2;lb2").spot(0, 4), 4);
    }

    private static String withItem(int letter, String number) {
        String other = letter == 5 ? "b" : letter == 6 ? "a" : "";
        if (!other.isEmpty()) {
            // The other end of the LANE is one that this one is not.
            other += Integer.parseInt(number) % 8 == 3 ? "4" : "3";
        }
        return EIGHT.substring(2) + CLAUSES[letter] + other + LETTERS[letter] + number;
    }

    private static int itemTold(BelievedOnce x, int letter, int value) {
        if (letter < 3) {
            return x.rule(letter);
        }
        if (letter < 5) {
            return x.spot(7, letter - 3);
        }
        int other = value == 3 ? 4 : 3;
        return x.spot(other, 4) == 1 << value ? value : -1;
    }

    private static void boundsOfItems() {
        DUE.says("a number out of bounds is wrong at its last digit");
        for (int letter = 0; letter < 7; letter++) {
            for (int i = 0; i < 110; i++) {
                int value = i < 10 ? i : i - 10;
                String number = i >= 10 && value < 10 ? "0" + value : "" + value;
                String text = withItem(letter, number);
                if (letter >= 5) {
                    text += ";p";
                }
                int last = text.length() - 1 - (letter >= 5 ? 2 : 0);
                boolean good = value >= LEAST[letter] && value <= MOST[letter];
                DUE.fault(0, text, good ? -1 : last);
                if (good) {
                    DUE.is("told by " + text, itemTold(Due.town(text), letter, value), value);
                }
            }
        }
        DUE.fault(0, "p;p;sg6", 6);
        DUE.fault(0, "p;p;sg6 ", 6);
        DUE.fault(0, "p;p;sg6;x", 6);
        DUE.fault(0, "p;p;sg60", 7);
        DUE.fault(0, "p;p;sg0", 6);
        DUE.fault(0, "p;p;sg0 1", 6);
        DUE.fault(0, "pw0;p", 2);
    }

    private static void thirdDigits() {
        DUE.says("a third digit (a fifth one in a LAW) itself, whatever stands ahead of it");
        for (int letter = 0; letter < 7; letter++) {
            for (int ahead = 0; ahead < 100; ahead++) {
                String head = "p;" + CLAUSES[letter] + LETTERS[letter] + ahead / 10 + ahead % 10;
                DUE.fault(0, head + "0", head.length());
                DUE.fault(0, head + "9;p", head.length());
                DUE.fault(0, head + "12", head.length());
            }
        }
        DUE.fault(0, "p;pw10 0", 7);
    }

    private static void lettersTwice() {
        DUE.says("a letter, each once at most in a CLAUSE");
        DUE.fault(0, "sg1e1k1;pw1o1;po1w1;l a0b1;lb1a0", -1);
        DUE.says("a letter that was there .. at it");
        DUE.fault(0, "p;p;sg1g1", 7);
        DUE.fault(0, "p;p;sg1e1g", 9);
        DUE.fault(0, "p;p;se1k1 e1", 10);
        DUE.fault(0, "p;p;sk1g1e1k1", 11);
        DUE.fault(0, "p;pw1w1", 5);
        DUE.fault(0, "p;pw1o1w", 7);
        DUE.fault(0, "p;po1w1o1", 7);
        DUE.fault(0, "p;p;la1a0", 7);
        DUE.fault(0, "p;p;lb0b1", 7);
        DUE.fault(0, "p;p;lb1a0b", 9);
        DUE.fault(0, "p;p;la0b1a", 9);
    }

    private static void wrongBytes() {
        DUE.says("the first byte at which no such TEXT can go on");
        DUE.next(0, "", "", "spl ");
        DUE.next(0, "p", "", "wo; ");
        DUE.next(0, "p;", "p", "sl ");
        DUE.next(0, "p;p", " ", "wo;");
        DUE.next(0, "p;p;", "spl", " ");
        DUE.next(0, "p;p; ", "spl", " ");
        DUE.next(0, "p;p;s", " ", "gek;");
        DUE.next(0, "p;p;p", " ", "wo;");
        DUE.next(0, "p;p;l", " ", "ab;");
        DUE.next(0, "p;p;sg", "12345", " ");
        DUE.next(0, "p;p;se", "01234", " ");
        DUE.next(0, "p;p;sk", DIGITS, " ");
        DUE.next(0, "p;pw", "123456789", " ");
        DUE.next(0, "p;po", DIGITS, " ");
        DUE.next(0, "p;p;la", "0", " 1234567");
        DUE.next(0, "p;p;lb", "1", " 0234567");
        DUE.next(0, "p;p;sg1", " ", ";ek");
        DUE.next(0, "p;p;sg1 ", " ", ";ek");
        DUE.next(0, "p;p;sg01", " ", ";ek");
        DUE.next(0, "p;p;se1g1", " ", ";k");
        DUE.next(0, "p;p;sk1", " " + DIGITS, ";ge");
        DUE.next(0, "p;p;sk12", " ", ";ge");
        DUE.next(0, "p;p;sk1e1g1", " ", ";");
        DUE.next(0, "p;pw9", " " + DIGITS, ";o");
        DUE.next(0, "p;po9", " ", ";w");
        DUE.next(0, "p;po0w01", " ", ";");
        DUE.next(0, "p;p;la0b", "1", " 0234567");
        DUE.next(0, "p;p;la0b1", " ", ";");
        DUE.next(0, "p;p;s;", "pl", " ");
        DUE.next(0, EIGHT, "sl", " ");
        DUE.next(0, EIGHT + "s;", "l", " ");
        DUE.next(0, "p;p;" + "l;".repeat(12), "sp", " ");
    }

    private static void blanks() {
        DUE.says("Blanks (32) may stand between all signs of both, not within numbers");
        DUE.fault(0, " s g  3 k 42 ; p w 7 o 8 ;  p ; l a 1 b 0 ", -1);
        DUE.fault(0, "p;p;sk4 2", 8);
        DUE.fault(0, "p;p w1 1", 7);
        DUE.fault(0, "p;p\t", 3);
        DUE.fault(0, "p\n;p", 1);
        DUE.fault(0, "p;" + (char) 160 + "p", 2);
    }

    private static void badLanes() {
        DUE.says("the length, if it ends .. with a LANE of a PLACE that is not told, or of one to itself");
        DUE.fault(0, "p;p;la1b2", 9);
        DUE.fault(0, "p;p;la1b2;p", -1);
        DUE.fault(0, "la1b2;p;p", 9);
        DUE.fault(0, "la1b2;p;p;p", -1);
        DUE.fault(0, "p;p;la2b1 ", 10);
        DUE.fault(0, EIGHT + "la7b0", -1);
        DUE.fault(0, EIGHT.substring(2) + "la7b0", 19);
        for (int p = 0; p < 8; p++) {
            DUE.fault(0, EIGHT + "la" + p + "b" + p, 21);
        }
        DUE.fault(0, "p;p;la1", 7);
        DUE.fault(0, "p;p;lb0", 7);
        DUE.fault(0, "p;p;lb0;l", 9);
        DUE.fault(0, "p;p;l;lb0", 9);
        DUE.says("the same LANE may be told twice");
        DUE.fault(0, "p;p;l;l", -1);
        DUE.fault(0, "p;p;l;la1b0", -1);
        DUE.is("spot(0, 4)", Due.town("p;p;l;la1b0;l").spot(0, 4), 2);
        DUE.is("BUSIEST", Due.town("p;p;p;l;la1b0;l;la2b0").most(2), 0);
        DUE.is("BUSIEST, each LANE once", Due.town("p;p;p;p;l;l;l;la2b1;la2b3").most(2), 1);
    }

    private static void earlyEnds() {
        DUE.says("the length, if it ends too early, with fewer than two PLACES");
        String[] early = {"", " ", "p", "p ", "s", "l", "sg1;l;p", "p;", "p;p;", "p;p ; ", "p;p;s;", "p;p;sg",
            "p;p;sg ", "p;pw", "p;po ", "p;p;la", "p;p;la0b"};
        for (String text : early) {
            DUE.fault(0, text, text.length());
        }
    }

    private static void firstFault() {
        DUE.says("FAULT: the first byte");
        DUE.fault(0, "p;la5b5;sg9;s", 10);
        DUE.fault(0, "x;sg9", 0);
        DUE.fault(0, "p;p;la1b1;x", 10);
        DUE.fault(0, "p;p;lb7;p;pw", 12);
        DUE.fault(0, "p;x;p", 2);
        DUE.fault(0, "p;;p", 2);
        DUE.fault(0, ";p;p", 0);
        DUE.fault(0, "p,p", 1);
        DUE.fault(0, "P;p", 0);
    }

    private static void takenTown() {
        DUE.says("The TAPE (empty then) is the TOWN (HOUR 0, no TROUBLE");
        BelievedOnce x = new BelievedOnce();
        Due.lay(x, "sg3;pw7;p;l");
        DUE.is("fault(0)", x.fault(0), -1);
        DUE.is("no TOWN by fault", x.count(0), 0);
        DUE.is("text(0): how many PLACES", x.text(0), 2);
        DUE.counts("taken", x, 2, 0, 0, -1, 0, 2, 0, 0, 0);
        DUE.is("TROUBLES", x.most(4), 0);
        DUE.is("text(0) of an empty TAPE", x.text(0), -1);
        DUE.is("the TOWN stays", x.spot(0, 0), 7);
        Due.lay(x, "pw8;pw9;p");
        DUE.is("fault(0) of another", x.fault(0), -1);
        DUE.is("the TOWN stays", x.spot(0, 0), 7);
        DUE.is("its PLACES, too", x.count(0), 2);
        Due.lay(x, "pw8;pw9;px");
        DUE.is("text(0) refused", x.text(0), -1);
        DUE.is("the TOWN stays", x.spot(1, 0), 20);
        DUE.is("its PLACES, too", x.count(0), 2);
        DUE.is("its LANE, too", x.steps(0, 1), 1);
    }

    /** Nothing of any TOWN ahead may be left, nor of one that was looked at alone. */
    private static void thirdTown() {
        String wide = "se4;pw99o9;pw99o9;pw99o9;pw99o9;l;la1b2;la2b3;la3b0";
        String[] between = {wide, "p;p;p;l;lb2", wide};
        BelievedOnce x = new BelievedOnce();
        for (int i = 0; i < 4; i++) {
            if (i < between.length) {
                Due.lay(x, between[i]);
                DUE.is("text(0)", x.text(0), i == 1 ? 3 : 4);
            } else {
                Due.lay(x, wide);
                DUE.is("fault(0)", x.fault(0), -1);
            }
            Due.lay(x, "se0;p;p");
            DUE.is("text(0)", x.text(0), 2);
            DUE.is("SEEN NOW", x.most(5), 1);
            DUE.is("COVER", x.cover(), 3);
            DUE.is("ALL", x.most(11), 40);
            DUE.is("PARTS", x.most(12), 2);
            DUE.is("spot(0, 4)", x.spot(0, 4), 0);
            DUE.is("spot(1, 4)", x.spot(1, 4), 0);
            DUE.is("steps(0, 1)", x.steps(0, 1), 99);
            DUE.is("shares(0, 10)", x.shares(0, 10), 5);
            DUE.is("round(1, 0)", x.round(1, 0), -1);
            DUE.is("call(1, 0)", x.call(1, 0), 20000);
            DUE.is("call(2, 0)", x.call(2, 0), 20000);
            DUE.is("call(1, 1)", x.call(1, 1), 3);
            DUE.is("DEAREST", x.most(0), 0);
            DUE.is("LIKELIEST", x.most(1), 0);
            DUE.is("BUSIEST", x.most(2), 0);
            DUE.is("FARTHEST", x.most(3), 1);
            DUE.is("RUINS", x.most(9), 0);
            DUE.is("fits(NONE)", x.fits(-1), 54);
        }
    }

    private static BelievedOnce lived() {
        BelievedOnce x = Due.town("sg3e0k7;pw9o3;pw8;p;la1b0;l;la2b1");
        Due.hold(x, "y:1");
        Due.hold(x, "y:2");
        x.law(0);
        x.danger(7);
        x.begin(0, 0, 2);
        x.begin(2, 1, 2);
        x.walk(1);
        x.hours(2);
        x.image();
        x.seen(0, 1, 1, true);
        x.cry();
        x.walk(2);
        x.give(9);
        x.walk(9);
        x.hours(0);
        x.walk(2);
        x.cry();
        return x;
    }

    private static void anotherTown() {
        DUE.says("all that was of another one, SEEN, too, is gone but LAWS, which holds, DANGER, STATUS");
        BelievedOnce x = lived();
        Due.lay(x, "p;p");
        DUE.is("text(0)", x.text(0), 2);
        DUE.counts("another", x, 2, 2, 0, 0, 0, 7, 0, 0, 0);
        DUE.rules("another", x, 2, 1, 20, 3, 0, 0);
        DUE.statuses("another", x, 1, 1, 1, 1, 0);
        for (int p = 0; p < 2; p++) {
            int[] spots = {20, 1, -1, 0, 0};
            for (int i = 0; i < 5; i++) {
                DUE.is("spot(" + p + ", " + i + ")", x.spot(p, i), spots[i]);
            }
        }
        DUE.noSuchSpot(x, 2, 0);
        DUE.is("steps(0, 1)", x.steps(0, 1), 99);
        DUE.is("back()", x.back(), -1);
        DUE.is("undo()", x.undo(), -1);
        DUE.is("log(0, 0)", x.log(0, 0), -1);
        DUE.is("fits(NONE)", x.fits(-1), 54);
        x.begin(1, 2, 3);
        DUE.is("lost(2): the LAW y:1 holds", x.lost(2), 7);
        thirdTown();
        DUE.says("no IMAGE of this TOWN");
        x = lived();
        Due.lay(x, "sg3e0k7;pw9o3;pw8;p;la1b0;l;la2b1");
        x.text(0);
        DUE.is("back() where the same was told anew", x.back(), -1);
        DUE.is("image()", x.image(), 0);
        DUE.is("back()", x.back(), 0);
        x = lived();
        Due.lay(x, "p");
        x.text(0);
        DUE.is("back() where none was told", x.back(), 2);
    }
}
