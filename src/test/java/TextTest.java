/** Promises 2 to 5: the TAPE, FAULTS of TOWNS and LAWS, texts that are taken. */
public final class TextTest {
    private static final Due DUE = new Due();

    public static void main(String[] args) {
        tapes();
        towns();
        laws();
        taken();
        DUE.close("TextTest");
    }

    private static void tapes() {
        BelievedOnce x = new BelievedOnce();
        DUE.is("end(0) of none", x.end(0), true);
        DUE.is("end(1) of none", x.end(1), false);
        DUE.is("feed of nothing", x.feed(0, 0, 0, 0, 0), 0);
        DUE.is("feed", x.feed(0x70003b00, 0x00000070, 0, 0, 0x20000000), 4);
        DUE.is("fault(0)", x.fault(0), -1);
        DUE.is("end(-1)", x.end(-1), false);
        DUE.is("end(5)", x.end(5), false);
        DUE.is("end(4)", x.end(4), true);
        DUE.is("end(2)", x.end(2), true);
        DUE.is("fault(0) of p;", x.fault(0), 2);
        DUE.is("end(3)", x.end(3), false);
        DUE.is("feed of high bytes", x.feed(-1, -1, 0, 0, 0), 10);
        DUE.is("fault(0) at byte 255", x.fault(0), 2);
        x.end(0);
        for (int i = 1; i <= 12; i++) {
            DUE.is("feed", x.feed(0x20202020, 0x20202020, 0x20202020, 0x20202020, 0x20202020), 20 * i);
        }
        DUE.is("feed of one more", x.feed(1, 0, 0, 0, 0), -1);
        DUE.is("feed of none more", x.feed(0, 0, 0, 0, 0), 240);
        DUE.is("count(2)", x.count(2), 240);
        x.end(239);
        DUE.is("feed of two more", x.feed(1, 1, 0, 0, 0), -1);
        DUE.is("count(2)", x.count(2), 239);
        DUE.is("feed of one more", x.feed(0, 0, 0, 0, 32), 240);
        DUE.is("fault(0) of blanks", x.fault(0), 240);
        DUE.is("fault(1) of blanks", x.fault(1), 240);
        DUE.is("fault(2)", x.fault(2), -2);
        DUE.is("fault(-1)", x.fault(-1), -2);
        DUE.is("text(2)", x.text(2), -1);
        DUE.is("text(-1)", x.text(-1), -1);
        DUE.is("count(2)", x.count(2), 240);
    }

    private static void towns() {
        DUE.fault(0, "", 0);
        DUE.fault(0, ";", 0);
        DUE.fault(0, "p;", 2);
        DUE.fault(0, "p;;p", 2);
        DUE.fault(0, "p;p;", 4);
        DUE.fault(0, "p;p ; ", 6);
        DUE.fault(0, "p;p", -1);
        DUE.fault(0, "p;s;p", -1);
        DUE.fault(0, "P;p", 0);
        DUE.fault(0, "p;sg", 4);
        DUE.fault(0, "p;sg ", 5);
        DUE.fault(0, "p;sg;p", 4);
        DUE.fault(0, "p;p;sg05", -1);
        DUE.fault(0, "p;p;sg00", 7);
        DUE.fault(0, "p;p;sg0", 6);
        DUE.fault(0, "p;p;sg60", 7);
        DUE.fault(0, "p;p;sg600", 8);
        DUE.fault(0, "p;p;sg6 0", 6);
        DUE.fault(0, "p;p;sg5 0", 8);
        DUE.fault(0, "p;p;sg005", 8);
        DUE.fault(0, "p;p;se4k99g5", -1);
        DUE.fault(0, "p;p;se04k00g1", -1);
        DUE.fault(0, "p;p;se4e", 7);
        DUE.fault(0, "p;p;sw1", 5);
        DUE.fault(0, "p;p;sk1k1", 7);
        DUE.fault(0, "p;p;s;x", 6);
        DUE.fault(0, "p;p;s;s", 6);
        DUE.fault(0, "po9w99;pw01o00", -1);
        DUE.fault(0, "po9w99;pw00", 10);
        DUE.fault(0, "pg1;p", 1);
        DUE.fault(0, "p;la7b1;p", 9);
        DUE.fault(0, "p;p;la1b1;", 10);
        DUE.fault(0, "p;p;la1b1;x", 10);
        DUE.fault(0, "p;p;la1b1 ", 10);
        DUE.fault(0, "p;p;la1b0;lb0a1", -1);
        DUE.fault(0, "p;p;lb0", 7);
        DUE.fault(0, "p;p;l", -1);
        DUE.fault(0, "p;p;lw1", 5);
        DUE.fault(0, "p;p;lb08", 7);
        DUE.fault(0, "la7b6;p;p;p;p;p;p;p;p", -1);
        DUE.fault(0, "la7b6;p;p;p;p;p;p;p", 19);
        DUE.fault(0, "p;p;p;p;p;p;p;p;p", 16);
        DUE.fault(0, "p;p;l;l;l;l;l;l;l;l;l;l;l;l", -1);
        DUE.fault(0, "p;p;l;l;l;l;l;l;l;l;l;l;l;l;l", 28);
        DUE.fault(0, "p\t;p", 1);
        DUE.fault(0, " p w 1 2 ; p", 7);
    }

    private static void laws() {
        DUE.fault(1, "", 0);
        DUE.fault(1, "y", 1);
        DUE.fault(1, "y:", 2);
        DUE.fault(1, "x:1", 0);
        DUE.fault(1, "y1", 1);
        DUE.fault(1, " y : 1 ; y : z > 2 ? 3 ", -1);
        DUE.fault(1, "y:1;", 4);
        DUE.fault(1, "y:1;;", 4);
        DUE.fault(1, "y:9999", -1);
        DUE.fault(1, "y:0000", -1);
        DUE.fault(1, "y:12345", 6);
        DUE.fault(1, "y:1 2", 4);
        DUE.fault(1, "y:-1", 2);
        DUE.fault(1, "y:z+", 4);
        DUE.fault(1, "y:z+-1", 4);
        DUE.fault(1, "y:z*w/d+n-h+k", -1);
        DUE.fault(1, "y:a", 2);
        DUE.fault(1, "y:zz", 3);
        DUE.fault(1, "y:z?", 3);
        DUE.fault(1, "y:z?1", 3);
        DUE.fault(1, "y:z&", 3);
        DUE.fault(1, "y:z)", 3);
        DUE.fault(1, "y:z]", 3);
        DUE.fault(1, "y:z=", 4);
        DUE.fault(1, "y:z=1", 5);
        DUE.fault(1, "y:z=1;", 5);
        DUE.fault(1, "y:z=1=1?1", 5);
        DUE.fault(1, "y:z=1?", 6);
        DUE.fault(1, "y:z=1?1", -1);
        DUE.fault(1, "y:z=1?1?1", 7);
        DUE.fault(1, "y:z=1?(1)", 6);
        DUE.fault(1, "y:z=1?!1", 6);
        DUE.fault(1, "y:z=1?z=1", 7);
        DUE.fault(1, "y:z<1&w>2|d=3&n<4?5", -1);
        DUE.fault(1, "y:(z)", 4);
        DUE.fault(1, "y:(z=1)", 7);
        DUE.fault(1, "y:(z=1)?1", -1);
        DUE.fault(1, "y:(z=1)+1?1", 7);
        DUE.fault(1, "y:(z=1)=1?1", 7);
        DUE.fault(1, "y:(z=1?1", 6);
        DUE.fault(1, "y:((z=1)|!k=2)&z=2?1", -1);
        DUE.fault(1, "y:[z=1]", 4);
        DUE.fault(1, "y:[z]=1?2", -1);
        DUE.fault(1, "y:[z", 4);
        DUE.fault(1, "y:[(z=1)]", 3);
        DUE.fault(1, "y:[!z]", 3);
        DUE.fault(1, "y:!z", 4);
        DUE.fault(1, "y:!z;", 4);
        DUE.fault(1, "y:!z=1?1", -1);
        DUE.fault(1, "y:!!(!z=1)?1", -1);
        DUE.fault(1, "y:1+(z=1)?1", 4);
        DUE.fault(1, "y:1=(z=1)?1", 4);
        DUE.fault(1, "y:1=!z?1", 4);
        DUE.fault(1, "y:z=1&?1", 6);
        DUE.fault(1, "y:z=1||k=1?1", 6);
        DUE.fault(1, "y:[[[[[[z]]]]]]", -1);
        DUE.fault(1, "y:[[[[[[[z]]]]]]]", 8);
        DUE.fault(1, "y:[[[[[[z]]]]]]+[[[[[[z]]]]]]", -1);
        DUE.fault(1, "y:!!!!!!z=1?1", -1);
        DUE.fault(1, "y:!!!!!!!z=1?1", 8);
        DUE.fault(1, "y:!!!!!!(z=1)?1", 8);
        DUE.fault(1, "y:!!!!!![z]=1?1", 8);
        DUE.fault(1, "y:!!!!!!z=[1]?1", 10);
        DUE.fault(1, "y:!!!!!!z=1&[z]=1|((((((z=1))))))?[1]", -1);
        DUE.fault(1, "y:!(!(!(z=1)))?1", -1);
        DUE.fault(1, "y:!(!(!([z]=1)))?1", 8);
        DUE.fault(1, "y:(((!!z=[1])))?1", -1);
        DUE.fault(1, "y:(((!!z=[[1]])))?1", 10);
        DUE.fault(1, "y:1,", 3);
        DUE.fault(1, "y:z=1?[[[[[[1]]]]]]", -1);
        DUE.fault(1, "y:z=1?[[[[[[[1]]]]]]]", 12);
    }

    private static void taken() {
        BelievedOnce x = new BelievedOnce();
        for (int i = 0; i < 4; i++) {
            Due.lay(x, "y:" + i);
            DUE.is("text(1)", x.text(1), i);
            DUE.is("count(1)", x.count(1), i + 1);
            DUE.is("count(3)", x.count(3), -1);
        }
        Due.lay(x, "y:9");
        DUE.is("fault(1) of a fifth LAW", x.fault(1), -1);
        DUE.is("text(1) of a fifth LAW", x.text(1), -1);
        DUE.is("count(1)", x.count(1), 4);
        DUE.is("count(2)", x.count(2), 3);
        DUE.is("text(0) of a LAW", x.text(0), -1);
        DUE.is("count(0)", x.count(0), 0);
        Due.lay(x, "p;p;p");
        DUE.is("text(0)", x.text(0), 3);
        DUE.is("count(0)", x.count(0), 3);
        newTown();
    }

    private static void newTown() {
        BelievedOnce x = Due.town("sg3e0k7;pw9o3;p;la1b0");
        Due.hold(x, "y:1");
        x.danger(7);
        x.begin(0, 0, 2);
        x.walk(1);
        x.walk(9);
        x.hours(2);
        x.image();
        x.seen(0, 1, 1, true);
        x.cry();
        Due.lay(x, "p;p");
        DUE.is("fault(1) of a TOWN", x.fault(1), 0);
        DUE.is("text(1) of a TOWN", x.text(1), -1);
        DUE.is("text(0)", x.text(0), 2);
        int[] counts = {2, 1, 0, 0, 0, 7, 0, 0, 0};
        for (int i = 0; i < counts.length; i++) {
            DUE.is("count(" + i + ")", x.count(i), counts[i]);
        }
        int[] rules = {2, 1, 20, 3, 0, 0};
        for (int i = 0; i < rules.length; i++) {
            DUE.is("rule(" + i + ")", x.rule(i), rules[i]);
        }
        DUE.is("most(4)", x.most(4), 0);
        DUE.is("spot(0, 0)", x.spot(0, 0), 20);
        DUE.is("spot(0, 1)", x.spot(0, 1), 1);
        DUE.is("spot(0, 4)", x.spot(0, 4), 0);
        DUE.is("steps(0, 1)", x.steps(0, 1), 99);
        DUE.is("back()", x.back(), -1);
        DUE.is("undo()", x.undo(), -1);
        DUE.is("log(0, 0)", x.log(0, 0), -1);
        DUE.is("status(0)", x.status(0), 1);
    }
}
