import java.util.NoSuchElementException;

/** What the tests share: answers that are due, and texts fed in words of four bytes. */
final class Due {
    private int wrong = 0;
    private int asked = 0;

    void is(String call, long got, long want) {
        asked++;
        if (got != want) {
            wrong++;
            System.out.println(call + " answered " + got + ", due is " + want);
        }
    }

    void is(String call, boolean got, boolean want) {
        is(call, got ? 1 : 0, want ? 1 : 0);
    }

    void noSuchSpot(BelievedOnce x, int spot, int what) {
        boolean thrown = false;
        try {
            x.spot(spot, what);
        } catch (NoSuchElementException e) {
            thrown = true;
        }
        is("spot(" + spot + ", " + what + ") throws NoSuchElementException", thrown, true);
    }

    void close(String name) {
        System.out.println(name + ": " + asked + " answers, " + wrong + " not as due");
        if (wrong != 0) {
            System.exit(1);
        }
    }

    /** Lays the text on an empty TAPE. */
    static void lay(BelievedOnce x, String text) {
        x.end(0);
        int[] words = new int[5];
        for (int at = 0; at < text.length(); at += 20) {
            for (int w = 0; w < 5; w++) {
                words[w] = 0;
                for (int b = 0; b < 4; b++) {
                    int i = at + 4 * w + b;
                    words[w] = words[w] << 8 | (i < text.length() ? text.charAt(i) & 255 : 0);
                }
            }
            x.feed(words[0], words[1], words[2], words[3], words[4]);
        }
    }

    static BelievedOnce town(String text) {
        BelievedOnce x = new BelievedOnce();
        lay(x, text);
        if (x.text(0) < 0) {
            throw new IllegalStateException("no TOWN: " + text);
        }
        return x;
    }

    /** A new LAW that holds from now on. */
    static void hold(BelievedOnce x, String text) {
        lay(x, text);
        int number = x.text(1);
        if (number < 0 || !x.law(number)) {
            throw new IllegalStateException("no LAW: " + text);
        }
    }
}
