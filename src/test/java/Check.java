import java.util.NoSuchElementException;
import java.util.concurrent.Callable;

/** What all tests share: comparing, feeding a text, and ending with the exit code. */
final class Check {
    static final String NO_SUCH = "NoSuchElementException";
    static final String ILLEGAL = "IllegalArgumentException";

    private static int wrong = 0;
    private static int checked = 0;

    private Check() {
    }

    static void same(String what, long due, long got) {
        checked++;
        if (due != got) {
            fail(what + " answered " + got + ", due is " + due);
        }
    }

    static void sameText(String what, String due, String got) {
        checked++;
        if (!due.equals(got)) {
            fail(what + " answered " + got + ", due is " + due);
        }
    }

    static void holds(String what, boolean fine) {
        checked++;
        if (!fine) {
            fail(what);
        }
    }

    static void fail(String message) {
        wrong++;
        if (wrong <= 50) {
            System.out.println(message);
        }
    }

    static int failures() {
        return wrong;
    }

    /** The answer of a call as a text, or the name of what it throws. */
    static String answer(Callable<? extends Number> call) {
        try {
            return String.valueOf(call.call().longValue());
        } catch (NoSuchElementException e) {
            return NO_SUCH;
        } catch (Exception e) {
            return e.getClass().getSimpleName();
        }
    }

    static void throwsIt(String what, String due, Callable<? extends Number> call) {
        sameText(what, due, answer(call));
    }

    static void feed(BeginJudge x, String text) {
        for (int from = 0; from < text.length(); from += 20) {
            x.feed(number(text, from), number(text, from + 4), number(text, from + 8),
                    number(text, from + 12), number(text, from + 16));
        }
    }

    private static int number(String text, int from) {
        int n = 0;
        for (int i = from; i < from + 4; i++) {
            n = n << 8 | (i < text.length() ? text.charAt(i) & 255 : 0);
        }
        return n;
    }

    static int tell(BeginJudge x, String text) {
        feed(x, text);
        return x.text(text.length());
    }

    static BeginJudge told(String text) {
        BeginJudge x = new BeginJudge();
        int units = tell(x, text);
        holds("a text that should be told has the FAULT " + (units + 10) + " at " + x.fault() + ": " + text, units >= 0);
        return x;
    }

    /** A text that has no FAULT, and how many UNITS it tells. */
    static void isTold(String what, String text, int units) {
        BeginJudge x = new BeginJudge();
        same(what + ": " + text, units, tell(x, text));
        same("no place, " + what + ": " + text, -1, x.fault());
    }

    static void faultIs(String what, String text, int fault, int place) {
        BeginJudge x = new BeginJudge();
        same(what + ": " + text, fault - 10, tell(x, text));
        same("the place, " + what + ": " + text, place, x.fault());
    }

    /** The FAULT stands where the bar is, which is left out. */
    static void faultAt(int fault, String text) {
        int place = text.indexOf('|');
        faultIs("FAULT " + fault, text.substring(0, place) + text.substring(place + 1), fault, place);
    }

    static void end() {
        System.out.println(checked + " checks, " + wrong + " wrong");
        System.exit(wrong == 0 ? 0 : 1);
    }
}
