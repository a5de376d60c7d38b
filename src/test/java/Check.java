import java.util.NoSuchElementException;

/** Compares answers with what is due, and makes objects from a text. */
final class Check {
    /** What stands for a NoSuchElementException where an answer is due. */
    static final long THROWN = Long.MIN_VALUE;

    private static int wrong = 0;
    private static long asked = 0;

    private Check() {
    }

    static void due(String what, long got, long want) {
        asked++;
        if (got != want) {
            wrong++;
            if (wrong <= 50) {
                System.out.println(what + " answered " + got + ", due is " + want);
            }
        }
    }

    static void due(String what, boolean got, boolean want) {
        due(what, got ? 1 : 0, want ? 1 : 0);
    }

    static int wrongSoFar() {
        return wrong;
    }

    static long player(SalaryLid x, int i, int what) {
        try {
            return x.player(i, what);
        } catch (NoSuchElementException e) {
            return THROWN;
        }
    }

    /** Feeds a text; the answer of the last feed. */
    static int feed(SalaryLid x, String text) {
        int answer = x.count(0);
        for (int at = 0; at < text.length(); at += 20) {
            answer = x.feed(four(text, at), four(text, at + 4), four(text, at + 8), four(text, at + 12), four(text, at + 16));
        }
        return answer;
    }

    private static int four(String text, int at) {
        int number = 0;
        for (int i = at; i < at + 4; i++) {
            number = number << 8 | (i < text.length() ? text.charAt(i) & 255 : 0);
        }
        return number;
    }

    static SalaryLid told(String text) {
        SalaryLid x = new SalaryLid();
        feed(x, text);
        if (x.league() == SalaryLid.NONE) {
            due("league() of " + text + " with fault " + x.fault(), -1, 1);
        }
        return x;
    }

    static int faultOf(String text) {
        SalaryLid x = new SalaryLid();
        feed(x, text);
        return x.fault();
    }

    static void finish() {
        System.out.println(asked + " answers, " + wrong + " not as due");
        if (wrong != 0) {
            System.exit(1);
        }
    }
}
