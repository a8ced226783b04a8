import java.util.ArrayDeque;
import java.util.Deque;
import java.util.Map;

/** A LAW's FAULT, by a heap of frames, and its WORTH, by cutting its text at its weakest sign. */
final class LawText {
    private LawText() {
    }

    private static final int SUM_ONLY = 0;
    private static final int OPEN = 1;
    private static final int TOP_CONDITION = 2;
    private static final int ROUND = 3;
    private static final int SQUARE = 4;

    /** Side: 0 no SUM of the UNIT yet, 1 in its first SUM, 2 in its second, 3 behind a ). */
    private static final class Frame {
        int type;
        int side;
        int nots;

        Frame(int type) {
            this.type = type;
        }
    }

    static int fault(String text) {
        Deque<Frame> frames = new ArrayDeque<>();
        String want = "y";
        int digits = 0;
        int last = -2;
        for (int i = 0; i < text.length(); i++) {
            char c = text.charAt(i);
            if (c == ' ') {
                continue;
            }
            if (c >= '0' && c <= '9' && last == i - 1) {
                if (digits == 4) {
                    return i;
                }
                digits++;
                last = i;
                continue;
            }
            if (want.equals("y") || want.equals(":")) {
                if (c != want.charAt(0)) {
                    return i;
                }
                if (c == ':') {
                    frames.clear();
                    frames.push(new Frame(OPEN));
                }
                want = c == 'y' ? ":" : "operand";
                continue;
            }
            Frame top = frames.peek();
            if (want.equals("operand")) {
                if (c >= '0' && c <= '9' || "zkwdnh".indexOf(c) >= 0) {
                    digits = 1;
                    last = c <= '9' ? i : -2;
                    top.side = Math.max(top.side, 1);
                    want = "joint";
                } else if (!opens(frames, top, c)) {
                    return i;
                }
                continue;
            }
            want = joins(frames, top, c);
            if (want == null) {
                return i;
            }
        }
        return want.equals("joint") && frames.size() == 1 && isSum(frames.peek()) ? -1 : text.length();
    }

    private static boolean isSum(Frame f) {
        return f.type == SUM_ONLY || f.type == OPEN;
    }

    private static boolean opens(Deque<Frame> frames, Frame top, char c) {
        int depth = 0;
        for (Frame f : frames) {
            depth += f.nots + (f.type >= ROUND ? 1 : 0);
        }
        if (depth >= 6) {
            return false;
        }
        if (c == '[') {
            top.side = Math.max(top.side, 1);
            frames.push(new Frame(SQUARE));
            return true;
        }
        boolean unit = top.side == 0 && top.type != SUM_ONLY && top.type != SQUARE;
        if (!unit || c != '!' && c != '(') {
            return false;
        }
        top.type = top.type == OPEN ? TOP_CONDITION : top.type;
        if (c == '!') {
            top.nots++;
        } else {
            frames.push(new Frame(ROUND));
        }
        return true;
    }

    /** What is wanted next, null where the sign can't stand. */
    private static String joins(Deque<Frame> frames, Frame top, char c) {
        boolean condition = top.type == TOP_CONDITION || top.type == ROUND;
        boolean unitDone = condition && top.side >= 2;
        if ("+-*/".indexOf(c) >= 0) {
            return top.side == 3 ? null : "operand";
        }
        if ("=<>".indexOf(c) >= 0 && (condition || top.type == OPEN) && top.side == 1) {
            top.type = top.type == OPEN ? TOP_CONDITION : top.type;
            top.side = 2;
            return "operand";
        }
        if ((c == '&' || c == '|') && unitDone) {
            top.side = 0;
            top.nots = 0;
            return "operand";
        }
        if (c == '?' && top.type == TOP_CONDITION && unitDone) {
            frames.clear();
            frames.push(new Frame(SUM_ONLY));
            return "operand";
        }
        if (c == ';' && isSum(top)) {
            return "y";
        }
        if (c == ')' && top.type == ROUND && unitDone) {
            frames.pop();
            frames.peek().side = 3;
            return "joint";
        }
        if (c == ']' && top.type == SQUARE) {
            frames.pop();
            return "joint";
        }
        return null;
    }

    /** Of a text without blanks. */
    static int value(String law, Map<Character, Integer> letters) {
        for (String clause : law.split(";")) {
            String body = clause.substring(2);
            int mark = body.indexOf('?');
            if (mark < 0 || holds(body.substring(0, mark), letters)) {
                return sum(body.substring(mark + 1), letters);
            }
        }
        return 0;
    }

    /** Where the last of these signs stands outside all brackets, or -1. */
    private static int lastOf(String text, String signs) {
        int depth = 0;
        for (int i = text.length() - 1; i >= 0; i--) {
            char c = text.charAt(i);
            depth += c == ')' || c == ']' ? 1 : c == '(' || c == '[' ? -1 : 0;
            if (depth == 0 && signs.indexOf(c) >= 0) {
                return i;
            }
        }
        return -1;
    }

    private static boolean holds(String text, Map<Character, Integer> letters) {
        int or = lastOf(text, "|");
        if (or >= 0) {
            return holds(text.substring(0, or), letters) || holds(text.substring(or + 1), letters);
        }
        int and = lastOf(text, "&");
        if (and >= 0) {
            return holds(text.substring(0, and), letters) && holds(text.substring(and + 1), letters);
        }
        if (text.charAt(0) == '!') {
            return !holds(text.substring(1), letters);
        }
        if (text.charAt(0) == '(') {
            return holds(text.substring(1, text.length() - 1), letters);
        }
        int by = lastOf(text, "=<>");
        int a = sum(text.substring(0, by), letters);
        int b = sum(text.substring(by + 1), letters);
        return text.charAt(by) == '=' ? a == b : text.charAt(by) == '<' ? a < b : a > b;
    }

    private static int sum(String text, Map<Character, Integer> letters) {
        int by = lastOf(text, "+-");
        if (by < 0) {
            by = lastOf(text, "*/");
        }
        if (by < 0) {
            char c = text.charAt(0);
            return c == '[' ? sum(text.substring(1, text.length() - 1), letters)
                : letters.containsKey(c) ? letters.get(c) : Integer.parseInt(text);
        }
        long a = sum(text.substring(0, by), letters);
        long b = sum(text.substring(by + 1), letters);
        char c = text.charAt(by);
        long value = c == '+' ? a + b : c == '-' ? a - b : c == '*' ? a * b : b == 0 ? 0 : a / b;
        return (int) Math.max(-1000000, Math.min(1000000, value));
    }
}
