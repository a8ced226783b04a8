import java.util.NoSuchElementException;

/** What the tests share: answers that are due, and texts fed in words of four bytes. */
final class Due {
    private int wrong = 0;
    private int asked = 0;
    private int sentences = 0;
    private String sentence = "";

    /** The words of the document that the next answers are due by. */
    void says(String words) {
        sentences++;
        sentence = "\"" + words + "\": ";
    }

    void is(String call, long got, long want) {
        asked++;
        if (got != want) {
            wrong++;
            System.out.println(sentence + call + " answered " + got + ", due is " + want);
        }
    }

    void is(String call, boolean got, boolean want) {
        is(call, got ? 1 : 0, want ? 1 : 0);
    }

    void same(String what, String got, String want) {
        asked++;
        if (!got.equals(want)) {
            wrong++;
            System.out.println(sentence + what + " is" + System.lineSeparator() + got
                + System.lineSeparator() + "due is" + System.lineSeparator() + want);
        }
    }

    void noSuchSpot(BelievedOnce x, int spot, int what) {
        boolean thrown = false;
        try {
            x.spot(spot, what);
        } catch (NoSuchElementException e) {
            thrown = true;
        }
        is("spot(" + spot + ", " + what + ") throws NoSuchElementException", thrown, true);
    }

    /** The FAULT of the text, asked twice; it is taken just if it has none. */
    void fault(int sort, String text, int want) {
        BelievedOnce x = new BelievedOnce();
        lay(x, text);
        is("count(2) of '" + text + "'", x.count(2), text.length());
        is("fault(" + sort + ") of '" + text + "'", x.fault(sort), want);
        is("fault(" + sort + ") again of '" + text + "'", x.fault(sort), want);
        is("count(2) behind it", x.count(2), text.length());
        is("text(" + sort + ") refused of '" + text + "'", x.text(sort) < 0, want >= 0);
        is("the TAPE then", x.count(2), want >= 0 ? text.length() : 0);
    }

    /** Each byte behind the head: those of whole end a TEXT, those of early come too short, others are a FAULT. */
    void next(int sort, String head, String whole, String early) {
        for (char sign = 1; sign < 256; sign++) {
            int want = whole.indexOf(sign) >= 0 ? -1 : early.indexOf(sign) >= 0 ? head.length() + 1 : head.length();
            fault(sort, head + sign, want);
        }
    }

    void counts(String where, BelievedOnce x, int... want) {
        for (int i = 0; i < want.length; i++) {
            is(where + ": count(" + i + ")", x.count(i), want[i]);
        }
    }

    void rules(String where, BelievedOnce x, int... want) {
        for (int i = 0; i < want.length; i++) {
            is(where + ": rule(" + i + ")", x.rule(i), want[i]);
        }
    }

    void statuses(String where, BelievedOnce x, int... want) {
        for (int i = 0; i < 5; i++) {
            is(where + ": status(" + i + ")", x.status(i), want[i]);
        }
    }

    void sizes(String where, BelievedOnce x, int... want) {
        for (int p = 0; p < want.length; p++) {
            is(where + ": size in " + p, x.spot(p, 3), want[p]);
        }
    }

    void kinds(String where, BelievedOnce x, int... want) {
        for (int p = 0; p < want.length; p++) {
            is(where + ": kind in " + p, x.spot(p, 2), want[p]);
        }
    }

    void worths(String where, BelievedOnce x, int... want) {
        for (int p = 0; p < want.length; p++) {
            is(where + ": worth of " + p, x.spot(p, 0), want[p]);
        }
    }

    void logRow(BelievedOnce x, int i, int lost, int troubles, int stood) {
        is("log(" + i + ", 0)", x.log(i, 0), lost);
        is("log(" + i + ", 1)", x.log(i, 1), troubles);
        is("log(" + i + ", 2)", x.log(i, 2), stood);
    }

    void close(String name) {
        System.out.println(name + ": " + asked + " answers"
            + (sentences == 0 ? "" : " by " + sentences + " sentences") + ", " + wrong + " not as due");
        if (wrong != 0) {
            System.exit(1);
        }
    }

    /** Lays the text on an empty TAPE. */
    static void lay(BelievedOnce x, String text) {
        x.end(0);
        int[] words = new int[5];
        for (int at = 0; at < text.length(); at += 20) {
            for (int w = 0; w < 5; w++) {
                words[w] = 0;
                for (int b = 0; b < 4; b++) {
                    int i = at + 4 * w + b;
                    words[w] = words[w] << 8 | (i < text.length() ? text.charAt(i) & 255 : 0);
                }
            }
            x.feed(words[0], words[1], words[2], words[3], words[4]);
        }
    }

    static BelievedOnce town(String text) {
        BelievedOnce x = new BelievedOnce();
        lay(x, text);
        if (x.text(0) < 0) {
            throw new IllegalStateException("no TOWN: " + text);
        }
        return x;
    }

    /** A new LAW that holds from now on. */
    static void hold(BelievedOnce x, String text) {
        lay(x, text);
        int number = x.text(1);
        if (number < 0 || !x.law(number)) {
            throw new IllegalStateException("no LAW: " + text);
        }
    }

    /** All that can be told of it without asking what would come, but STATUS. */
    static String told(BelievedOnce x) {
        StringBuilder all = new StringBuilder("counts");
        for (int i = 0; i < 9; i++) {
            all.append(' ').append(x.count(i));
        }
        all.append(" rules");
        for (int i = 0; i < 6; i++) {
            all.append(' ').append(x.rule(i));
        }
        for (int p = 0; p < x.count(0); p++) {
            all.append(" place ").append(p);
            for (int i = 0; i < 5; i++) {
                all.append(' ').append(x.spot(p, i));
            }
        }
        for (int i = 0; i < x.count(7); i++) {
            all.append(" log ").append(x.log(i, 0)).append(' ').append(x.log(i, 1)).append(' ').append(x.log(i, 2));
        }
        return all.toString();
    }
}
