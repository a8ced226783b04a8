import java.util.ArrayList;
import java.util.HashSet;
import java.util.List;
import java.util.Set;

/** The FAULT of a TOWN, found by cutting the text into words first. */
final class TownText {
    private TownText() {
    }

    static int fault(String text) {
        int s = 0;
        int p = 0;
        List<int[]> lanes = new ArrayList<>();
        char clause = 0;
        char letter = 0;
        Set<Character> told = new HashSet<>();
        int i = 0;
        while (i < text.length()) {
            char c = text.charAt(i);
            if (c == ' ') {
                i++;
            } else if (letter != 0) {
                int end = i;
                while (end < text.length() && end < i + 3 && "0123456789".indexOf(text.charAt(end)) >= 0) {
                    end++;
                }
                if (end == i) {
                    return i;
                }
                if (end == i + 3) {
                    return i + 2;
                }
                int value = Integer.parseInt(text.substring(i, end));
                if (value < least(letter) || value > most(letter)) {
                    return end - 1;
                }
                if (clause == 'l') {
                    lanes.get(lanes.size() - 1)[letter == 'a' ? 0 : 1] = value;
                }
                letter = 0;
                i = end;
            } else if (clause == 0) {
                s += c == 's' ? 1 : 0;
                p += c == 'p' ? 1 : 0;
                if (c == 'l') {
                    lanes.add(new int[] {0, 1});
                }
                if ("spl".indexOf(c) < 0 || s > 1 || p > 8 || lanes.size() > 12) {
                    return i;
                }
                clause = c;
                told.clear();
                i++;
            } else if (c == ';') {
                clause = 0;
                i++;
            } else {
                String letters = clause == 's' ? "gek" : clause == 'p' ? "wo" : "ab";
                if (letters.indexOf(c) < 0 || !told.add(c)) {
                    return i;
                }
                letter = c;
                i++;
            }
        }
        boolean whole = clause != 0 && letter == 0 && p >= 2;
        for (int[] lane : lanes) {
            whole &= lane[0] < p && lane[1] < p && lane[0] != lane[1];
        }
        return whole ? -1 : text.length();
    }

    private static int least(char letter) {
        return letter == 'g' || letter == 'w' ? 1 : 0;
    }

    private static int most(char letter) {
        switch (letter) {
            case 'g': return 5;
            case 'e': return 4;
            case 'o': return 9;
            case 'a': case 'b': return 7;
            default: return 99;
        }
    }
}
