/**
 * The boundary cases that part 2 of "Terms" names for a RUN, its limits, ORDERS and who MAY TOUCH whom:
 * a test for each sentence (quoted above it), just inside the boundary, at it and just outside it.
 */
public final class EdgeRunTest {
    private static final int NEW = 0;
    private static final int BEGUN = 1;
    private static final int DONE = 2;
    private static final int BROKEN = 3;

    private EdgeRunTest() {
    }

    public static void main(String[] args) {
        numbersWrap();
        sumsFromTheLeft();
        allNewAllZero();
        whatTouches();
        aboveIsTouchedFirst();
        begunOrDoneNothing();
        brokenIsAFailure();
        failureEndsAllThatIsBeingDone();
        failureInNoUnit();
        mainGoesOn();
        offIsPassedOver();
        surpriseOrNot();
        lostOrNot();
        whatIsOpen();
        workOfEach();
        workByATerm();
        workByASet();
        workByAUnit();
        workAndWhatIsSeenByIt();
        openByAFunction();
        openByAUnit();
        openAgainBehindIt();
        tooMuchEndsTheRun();
        eagerThenMain();
        eagerTooMuch();
        ordersOfAllUnits();
        fewestAndTooMuch();
        mayTouch();
        mayTouchByFunctions();
        reachesAndRings();
        ordersThatBreak();
        Check.end();
    }

    private static void lazyIs(BeginJudge x, String what, int... due) {
        for (int i = 0; i < due.length; i++) {
            Check.same(what + ": lazy " + i, due[i], x.lazy(i));
        }
    }

    private static int name(char f) {
        return f - 'a';
    }

    /** "whole numbers that wrap (32 bits)". */
    private static void numbersWrap() {
        // 512 * 512 * 512 * 16 is 2 to the 31st.
        String[] sums = {"512*512*512*8", "512*512*512*16-1", "512*512*512*16", "512*512*512*16+1", "0-(512*512*512*16)", "0-(512*512*512*16)-1",
            "512*512*512*8*2-2+1", "256*256*256*256", "256*256*256*256+1", "256*256*256*256-1", "999*999*999*999*999*999*999*999", "0-999*999*999*999"};
        int[] due = {1 << 30, Integer.MAX_VALUE, Integer.MIN_VALUE, Integer.MIN_VALUE + 1, Integer.MIN_VALUE, Integer.MAX_VALUE,
            Integer.MAX_VALUE, 0, 1, -1, 999 * 999 * 999 * 999 * 999 * 999 * 999 * 999, -999 * 999 * 999 * 999};
        for (int i = 0; i < sums.length; i++) {
            BeginJudge x = Check.told("unit A{var v=" + sums[i] + ";}main{do A.v;}");
            Check.same("wraps: " + sums[i], due[i], x.value(0, name('v')));
            BeginJudge y = Check.told("unit A{var v;}main{A.v=" + sums[i] + ";}");
            Check.same("wraps, SET: " + sums[i], due[i], y.value(0, name('v')));
        }
        BeginJudge seen = Check.told("unit A{A.v=512*512*512*16;do A.v;var v=1;}main{do A.v;}");
        Check.same("a SURPRISE of the lowest number", Integer.MIN_VALUE, seen.surprise(0, 2));
    }

    /** "with + - * between, all from the left on". */
    private static void sumsFromTheLeft() {
        String[] sums = {"2+3*4", "2*3+4", "10-3-4", "10-(3-4)", "2-3*4", "2+(3*4)", "(2+3)*(4-1)", "1+2*3-4*5+6*7-8", "((((((7))))))"};
        int[] due = {20, 10, 3, 11, -4, 14, 15, 209, 7};
        for (int i = 0; i < sums.length; i++) {
            BeginJudge x = Check.told("unit A{var v=" + sums[i] + ";}main{do A.v;}");
            Check.same("from the left: " + sums[i], due[i], x.value(0, name('v')));
        }
        // A SUM waits with all that it has worked out, while FUNCTIONS and UNITS work out theirs.
        BeginJudge deep = Check.told("unit A{fun f{give 9-(8-(7-(A.g()-5)));}fun g{give 1+(2*(3+(4*B.v)));}}unit B{var v=6-(5-(4-(3-2)));}"
                + "unit C{var v=1+(10*(2+(A.f()*100)));}main{do C.v;}");
        int b = 6 - (5 - (4 - (3 - 2)));
        int g = 1 + 2 * (3 + 4 * b);
        int f = 9 - (8 - (7 - (g - 5)));
        Check.same("a SUM in a SUM in a SUM", 1 + 10 * (2 + f * 100), deep.value(2, name('v')));
        // TERMS are worked out from the left: f counts, and gives what it was.
        BeginJudge x = Check.told("unit A{var n;fun f{A.n=A.n+1;give A.n;}var v=A.f()*100+(A.f()*10)+A.f();}main{do A.v;}");
        Check.same("TERMS from the left", 123, x.value(0, name('v')));
    }

    /** "A RUN: all UNITS are NEW, all VARIABLES 0". */
    private static void allNewAllZero() {
        BeginJudge x = Check.told("unit A{var v=5;var w;}unit B:A{var v=7;do fail;}");
        lazyIs(x, "without STEPS", 0, 0, 0, 0, 0, 0, 0, 0);
        for (int u = 0; u < 2; u++) {
            Check.same("NEW", NEW, x.state(u));
            Check.same("0", 0, x.value(u, name('v')));
        }
        // Each RUN anew: what an EAGER one left is not there by LAZY, nor what LAZY left by EAGER.
        BeginJudge y = Check.told("unit A{var v;}main{A.v=A.v+1;}");
        for (int i = 0; i < 3; i++) {
            Check.same("each RUN anew", 1, y.value(0, name('v')));
            Check.same("each RUN anew", 3 + 1, y.eager(0, 6));
            Check.same("each RUN anew", 1, y.alike(0));
        }
    }

    /** "To TOUCH a UNIT (a VARIABLE of it is read or SET, a FUNCTION of it called; a CONSTANT read touches nothing)". */
    private static void whatTouches() {
        String unit = "unit A{const c=3;var v;fun f{give 1;}}main{";
        Check.same("a VARIABLE read", DONE, Check.told(unit + "do A.v;}").state(0));
        Check.same("a VARIABLE SET", DONE, Check.told(unit + "A.v=1;}").state(0));
        Check.same("a FUNCTION called", DONE, Check.told(unit + "do A.f();}").state(0));
        Check.same("a CONSTANT read", NEW, Check.told(unit + "do A.c;}").state(0));
        Check.same("numbers alone", NEW, Check.told(unit + "do 1;}").state(0));
        Check.same("none", NEW, Check.told(unit + "}").state(0));
        Check.same("a CONSTANT of a BROKEN UNIT", 1, Check.told("unit A{const c=3;var v;do fail;}main{do A.v;do A.c;}").lazy(2));
    }

    /** "it is BEGUN: the one ABOVE it is TOUCHED, then its MEMBERS that are ON are done, in order". */
    private static void aboveIsTouchedFirst() {
        BeginJudge x = Check.told("unit A{do 1;}unit B:A{do 1;}unit C:B{do 1;}unit D:C{do 1;}unit E:D{do 1;}unit F:E{do 1;}unit G:F{var v;}main{do G.v;}");
        for (int k = 0; k < 7; k++) {
            Check.same("BEGUN " + k, 6 - k, x.begun(k));
        }
        Check.same("no eighth", -1, x.begun(7));
        // The one ABOVE is done ahead of the first MEMBER.
        BeginJudge y = Check.told("unit A{B.v=5;var w;}unit B:A{var x=B.v;var v;}main{do B.v;}");
        Check.same("ahead of the MEMBERS", 5, y.value(1, name('x')));
        // In the order of their places.
        BeginJudge z = Check.told("unit A{A.v=1;A.v=2;A.v=3;var v;}main{do A.v;}");
        Check.same("in order", 3, z.value(0, name('v')));
        z.move(0, 0, 3);
        Check.same("in order of their places", 1, z.value(0, name('v')));
    }

    /** "If it is BEGUN or DONE, nothing." */
    private static void begunOrDoneNothing() {
        BeginJudge x = Check.told("unit A{var v;A.v=A.v+1;var w=B.v;}unit B{var v=A.v;}main{do A.v;do A.v+B.v;do A.v;}");
        Check.same("begun once", 1, x.value(0, name('v')));
        Check.same("two BEGUN", 2, x.lazy(3));
        Check.same("both DONE", 2, x.lazy(4));
        Check.same("none more", -1, x.begun(2));
    }

    /** "If it is BROKEN, that is a FAILURE." */
    private static void brokenIsAFailure() {
        String unit = "unit A{var v;fun f{give 1;}do fail;}main{do A.v;";
        for (String step : new String[] {"do A.v;", "A.v=1;", "do A.f();", "do 1+(2*A.v);"}) {
            Check.same("a BROKEN one: " + step, 2, Check.told(unit + step + "}").lazy(2));
        }
        Check.same("another STEP", 1, Check.told(unit + "do 1;}").lazy(2));
        BeginJudge x = Check.told(unit + "A.v=7;}");
        Check.same("it is not SET", 0, x.value(0, name('v')));
        Check.same("still BROKEN by the first", 1, x.broken(0, 0));
    }

    /** "A FAILURE .. ends all that is being done: each UNIT that is BEGUN and in which it happens is BROKEN, the innermost first". */
    private static void failureEndsAllThatIsBeingDone() {
        StringBuilder s = new StringBuilder();
        for (char u = 'A'; u < 'G'; u++) {
            s.append("unit ").append(u).append("{var v=").append((char) (u + 1)).append(".v;var w=1;}");
        }
        BeginJudge x = Check.told(s + "unit G{var v=fail;}main{do A.v;do 1;}");
        lazyIs(x, "all seven", 0, 0, 1, 7, 0, 7, 1 + 7 + 6 + 1 + 1, 0);
        for (int u = 0; u < 7; u++) {
            Check.same("BROKEN", BROKEN, x.state(u));
            Check.same("by fail", 1, x.broken(u, 0));
            Check.same("by no UNIT", -1, x.broken(u, 1));
            Check.same("broke ahead of it", 6 - u, x.broken(u, 2));
        }
        BeginJudge y = Check.told(s + "unit G{var v=1;}main{do A.v;do 1;}");
        lazyIs(y, "without it", 0, 0, 0, 7, 7, 0, 1 + 7 + 6 + 6 + 1 + 1, 0);
        // What is DONE or NEW is none in which it happens.
        BeginJudge z = Check.told("unit A{var v=B.v+C.v;fun f{give fail;}}unit B{var v=1;}unit C{var v=2;do A.f();}unit D{var v;}main{do A.v;}");
        int[] due = {BROKEN, DONE, BROKEN, NEW};
        int[] ahead = {1, -1, 0, -1};
        for (int u = 0; u < 4; u++) {
            Check.same("state " + u, due[u], z.state(u));
            Check.same("ahead " + u, ahead[u], z.broken(u, 2));
        }
        Check.same("what was MADE stays", 1, z.value(1, name('v')));
        Check.same("and what was MADE in a BROKEN one", 2, z.value(2, name('v')));
        Check.same("what was not, does not become it", 0, z.value(0, name('v')));
    }

    /** "up to the STEP of MAIN, which is over (FAILED)": also if no UNIT is BEGUN. */
    private static void failureInNoUnit() {
        BeginJudge x = Check.told("unit A{var v;fun f{A.v=1;A.v=fail;give 1;}}main{do fail;do A.f();A.v=2+fail;}");
        lazyIs(x, "no UNIT", 0, 0, 3, 1, 1, 0, 1 + 2 + 2 + 1 + 2, 0);
        Check.same("no UNIT is BROKEN", DONE, x.state(0));
        Check.same("no UNIT is BROKEN", -1, x.broken(0, 0));
        Check.same("what was SET ahead of it stays", 1, x.value(0, name('v')));
    }

    /** "MAIN goes on with the next one". */
    private static void mainGoesOn() {
        for (int n : new int[] {0, 1, 9, 10}) {
            Check.same("FAILED STEPS", n, Check.told("main{" + "do fail;".repeat(n) + "do 1;".repeat(10 - n) + "}").lazy(2));
        }
        BeginJudge x = Check.told("unit A{var v;}main{" + "do fail+1;".repeat(9) + "A.v=4;}");
        Check.same("the tenth STEP", 4, x.value(0, name('v')));
        Check.same("WORK", 9 + 3, x.lazy(6));
    }

    /** "A MEMBER that is OFF is passed over (its VARIABLE is 0, never MADE; a CONSTANT, a FUNCTION is there all the same)". */
    private static void offIsPassedOver() {
        String text = "unit A{const c=3;var v=4;do fail;A.w=6;fun f{give 7;}var w;}main{do A.v;A.w=A.w+A.c*A.f();}";
        BeginJudge x = Check.told(text);
        lazyIs(x, "ON", 0, 0, 2);
        Check.same("BROKEN", BROKEN, x.state(0));
        x.turn(0, 2);
        Check.same("DO is passed over", DONE, x.state(0));
        Check.same("all others are done", (6 + 3) * 7, x.value(0, name('w')));
        x.turn(0, 3);
        Check.same("SET is passed over", 3 * 7, x.value(0, name('w')));
        x.turn(0, 1);
        Check.same("its VARIABLE is 0", 0, x.value(0, name('v')));
        x.turn(0, 0);
        x.turn(0, 4);
        x.turn(0, 5);
        Check.same("CONSTANT and FUNCTION are there", 3 * 7, x.value(0, name('w')));
        Check.same("all are OFF", 0, x.told(3));
        Check.same("its UNIT is DONE all the same", DONE, x.state(0));
        Check.same("WORK: a TERM, A, three TERMS, that of f, SET", 1 + 1 + 3 + 1 + 1, x.lazy(6));
    }

    /** "A SURPRISE: a VARIABLE with a SUM, that is not MADE (ON or OFF), is read, its UNIT being BEGUN". */
    private static void surpriseOrNot() {
        Check.same("not MADE", 1, Check.told("unit A{do A.v;var v=1;}main{do A.v;}").lazy(0));
        Check.same("as it is MADE", 1, Check.told("unit A{var v=A.v;}main{do A.v;}").lazy(0));
        Check.same("MADE", 0, Check.told("unit A{var v=1;do A.v;}main{do A.v;}").lazy(0));
        Check.same("without a SUM", 0, Check.told("unit A{do A.v;var v;}main{do A.v;}").lazy(0));
        Check.same("its UNIT is DONE", 0, Check.told("unit A{var v=1;}main{do A.v;}").lazy(0));
        Check.same("SET, yet not MADE", 1, Check.told("unit A{A.v=3;do A.v;var v=1;}main{do A.v;}").lazy(0));
        Check.same("it is as it is then", 3, Check.told("unit A{A.v=3;do A.v;var v=1;}main{do A.v;}").surprise(0, 2));
        Check.same("a SUM that is 0", 1, Check.told("unit A{do A.v;var v=0;}main{do A.v;}").lazy(0));
        Check.same("read twice", 2, Check.told("unit A{do A.v+A.v;var v=0;}main{do A.v;}").lazy(0));
        BeginJudge x = Check.told("unit A{do A.v;var v=1;do A.v;}main{do A.v;}");
        Check.same("ON: the first alone", 1, x.lazy(0));
        x.turn(0, 1);
        Check.same("OFF: both, but not behind DONE", 2, x.lazy(0));
    }

    /** "LOST: such a one is SET, likewise." */
    private static void lostOrNot() {
        Check.same("not MADE", 1, Check.told("unit A{A.v=5;var v=1;}main{do A.v;}").lazy(1));
        Check.same("then it becomes its SUM", 1, Check.told("unit A{A.v=5;var v=1;}main{do A.v;}").value(0, name('v')));
        Check.same("MADE", 0, Check.told("unit A{var v=1;A.v=5;}main{do A.v;}").lazy(1));
        Check.same("without a SUM", 0, Check.told("unit A{A.v=5;var v;}main{do A.v;}").lazy(1));
        Check.same("its UNIT is DONE", 0, Check.told("unit A{var v=1;}main{A.v=5;}").lazy(1));
        Check.same("NEW ahead of the TOUCH", 0, Check.told("unit A{var v=1;}unit B{A.v=5;var w;}main{do B.w;}").lazy(1));
        Check.same("SET twice", 2, Check.told("unit A{A.v=5;A.v=6;var v=1;}main{do A.v;}").lazy(1));
        Check.same("a FAILURE in its SUM", 0, Check.told("unit A{A.v=fail;var v=1;}main{do A.v;}").lazy(1));
        BeginJudge x = Check.told("unit A{A.v=5;var v=1;A.v=6;}main{A.v=7;}");
        Check.same("ON: the first alone", 1, x.lazy(1));
        x.turn(0, 1);
        Check.same("OFF: both, but not behind DONE", 2, x.lazy(1));
    }

    /** "OPEN are, the outermost first: the static part of each UNIT that is BEGUN and not yet DONE or BROKEN, and each FUNCTION that is being worked out." */
    private static void whatIsOpen() {
        BeginJudge x = Check.told("unit A{do A.f();var v=1;fun f{A.w=A.g();give A.v;}fun g{give B.h();}var w;}unit B{var q=3;fun h{give A.v;}}main{do A.v;}");
        int[][] due = {{99, 'f' - 'a', 'g' - 'a', 100 + 'h' - 'a', -1}, {99, 'f' - 'a', -1, -1, -1}};
        for (int k = 0; k < 2; k++) {
            for (int i = 0; i < 5; i++) {
                Check.same("OPEN at SURPRISE " + k + ", " + i, due[k][i], x.trace(k, i));
            }
        }
        Check.same("how many", 4, x.surprise(0, 4));
        Check.same("how many", 2, x.surprise(1, 4));
        // What was BROKEN ahead is OPEN no more.
        BeginJudge y = Check.told("unit A{var v;do A.f();fun f{give fail;}}unit B{do B.v;var v=1;}main{do A.v;do B.v;}");
        Check.same("one alone", 1, y.surprise(0, 4));
        Check.same("the static part of B", 199, y.trace(0, 0));
        Check.same("no second", -1, y.trace(0, 1));
    }

    /** "WORK: 1 for each TERM (but "(" ")") as it begins, for each SET as it becomes .., for each UNIT as it is BEGUN." */
    private static void workOfEach() {
        String unit = "unit A{const c=1;var v;fun f{give 1;}}main{";
        String[] steps = {"", "do 1;", "do ((1));", "do 1+(2);", "do fail;", "do fail+1;", "do A.c;", "do A.v;", "do A.f();", "A.v=1;", "A.v=fail;", "do A.v+A.v;"};
        int[] due = {0, 1, 1, 2, 1, 1, 1, 2, 3, 3, 1, 3};
        for (int i = 0; i < steps.length; i++) {
            Check.same("WORK of " + steps[i], due[i], Check.told(unit + steps[i] + "}").lazy(6));
        }
        Check.same("a VARIABLE as it becomes its SUM is none", 3, Check.told("unit A{var v=1;}main{do A.v;}").lazy(6));
        Check.same("to TOUCH a BROKEN one", 4, Check.told("unit A{var v=fail;}main{do A.v;do A.v;}").lazy(6));
    }

    // A begun takes 1, a call of a 9, of b 73, of c 585.
    private static final String DEAR = "unit A{fun a{give 1+1+1+1+1+1+1+1;}fun b{give A.a()+A.a()+A.a()+A.a()+A.a()+A.a()+A.a()+A.a();}"
            + "fun c{give A.b()+A.b()+A.b()+A.b()+A.b()+A.b()+A.b()+A.b();}var v;}";

    /** STEPS that take just so much WORK, A begun by them too. */
    private static String spend(int work) {
        int rest = work - 1;
        StringBuilder steps = new StringBuilder();
        String[] terms = {"A.c()", "A.b()", "A.a()", "1"};
        int[] cost = {585, 73, 9, 1};
        for (int i = 0; i < 4; i++) {
            int times = rest / cost[i];
            rest -= times * cost[i];
            if (times > 0) {
                steps.append("do ").append((terms[i] + "+").repeat(times - 1)).append(terms[i]).append(";");
            }
        }
        return steps.toString();
    }

    private static BeginJudge spent(String units, int work, String steps) {
        return Check.told(DEAR + units + "main{" + spend(work) + steps + "}");
    }

    /** "TOO MUCH: WORK would be above 3,000": by a TERM of each kind. */
    private static void workByATerm() {
        for (int n : new int[] {2998, 2999, 3000}) {
            lazyIs(spent("", n, ""), "spent " + n, 0, 0, 0, 1, 1, 0, n, 0);
        }
        for (String step : new String[] {"do 1;", "do (1);", "do B.c;", "do A.v;", "do fail;", "A.v=fail;"}) {
            int failed = step.contains("fail") ? 1 : 0;
            String b = "unit B{const c=1;}";
            lazyIs(spent(b, 2998, step), "inside: " + step, 0, 0, failed, 1, 1, 0, 2999, 0);
            lazyIs(spent(b, 2999, step), "just 3,000: " + step, 0, 0, failed, 1, 1, 0, 3000, 0);
            lazyIs(spent(b, 3000, step), "above 3,000: " + step, 0, 0, 0, 1, 1, 0, 3000, 1);
        }
        lazyIs(spent("", 2991, "do A.a();"), "a FUNCTION just done", 0, 0, 0, 1, 1, 0, 3000, 0);
        lazyIs(spent("", 2992, "do A.a();"), "its last TERM is one too many", 0, 0, 0, 1, 1, 0, 3000, 1);
        lazyIs(spent("", 3000, "do A.a();"), "its call is one too many", 0, 0, 0, 1, 1, 0, 3000, 1);
    }

    /** "for each SET as it becomes (behind its SUM and the TOUCH)": by a SET. */
    private static void workByASet() {
        int[][] due = {{2998, 7, 3000, 0}, {2999, 0, 3000, 1}, {3000, 0, 3000, 1}};
        for (int[] row : due) {
            BeginJudge x = spent("", row[0], "A.v=7;");
            Check.same("what it is behind " + row[0], row[1], x.value(0, name('v')));
            Check.same("WORK behind " + row[0], row[2], x.lazy(6));
            Check.same("TOO MUCH behind " + row[0], row[3], x.lazy(7));
            Check.same("its STEP has not FAILED", 0, x.lazy(2));
        }
        // The TOUCH is ahead of it: B is BEGUN and DONE, and yet not SET.
        int[][] touch = {{2997, 7, DONE, 0}, {2998, 0, DONE, 1}, {2999, 0, NEW, 1}, {3000, 0, NEW, 1}};
        for (int[] row : touch) {
            BeginJudge x = spent("unit B{var v;}", row[0], "B.v=7;");
            Check.same("SET behind " + row[0], row[1], x.value(1, name('v')));
            Check.same("its UNIT behind " + row[0], row[2], x.state(1));
            Check.same("TOO MUCH behind " + row[0], row[3], x.lazy(7));
            Check.same("WORK behind " + row[0], 3000, x.lazy(6));
        }
    }

    /** "no UNIT is BEGUN by it": by a UNIT. */
    private static void workByAUnit() {
        int[][] due = {{2997, DONE, 2999, 0}, {2998, DONE, 3000, 0}, {2999, NEW, 3000, 1}, {3000, NEW, 3000, 1}};
        for (int[] row : due) {
            BeginJudge x = spent("unit B{var v;}", row[0], "do B.v;");
            Check.same("B behind " + row[0], row[1], x.state(1));
            Check.same("WORK behind " + row[0], row[2], x.lazy(6));
            Check.same("TOO MUCH behind " + row[0], row[3], x.lazy(7));
            Check.same("BEGUN ones behind " + row[0], row[1] == DONE ? 2 : 1, x.lazy(3));
            Check.same("its row behind " + row[0], row[1] == DONE ? 1 : -1, x.begun(1));
        }
        // The one ABOVE is one more.
        int[][] above = {{2997, DONE, DONE, 0}, {2998, NEW, BEGUN, 1}, {2999, NEW, NEW, 1}};
        for (int[] row : above) {
            BeginJudge x = spent("unit B{}unit C:B{var v;}", row[0], "do C.v;");
            Check.same("ABOVE behind " + row[0], row[1], x.state(1));
            Check.same("C behind " + row[0], row[2], x.state(2));
            Check.same("TOO MUCH behind " + row[0], row[3], x.lazy(7));
        }
    }

    /** A SURPRISE, a LOST one, a MADE one by the last WORK that there may be, and by one more. */
    private static void workAndWhatIsSeenByIt() {
        int[][] seen = {{2996, 1, 2999, DONE}, {2997, 1, 3000, BEGUN}, {2998, 0, 0, BEGUN}};
        for (int[] row : seen) {
            BeginJudge x = spent("unit B{do B.v;var v=1;}", row[0], "do B.v;");
            Check.same("SURPRISES behind " + row[0], row[1], x.lazy(0));
            Check.same("B behind " + row[0], row[3], x.state(1));
            if (row[1] == 1) {
                Check.same("WORK by then", row[2], x.surprise(0, 3));
            } else {
                Check.throwsIt("none", Check.NO_SUCH, () -> x.surprise(0, 3));
            }
        }
        int[][] lost = {{2995, 1, DONE}, {2996, 1, BEGUN}, {2997, 0, BEGUN}};
        for (int[] row : lost) {
            BeginJudge x = spent("unit B{B.v=5;var v=1;}", row[0], "do B.v;");
            Check.same("LOST behind " + row[0], row[1], x.lazy(1));
            Check.same("B behind " + row[0], row[2], x.state(1));
            Check.same("v behind " + row[0], row[2] == DONE ? 1 : row[1] * 5, x.value(1, name('v')));
        }
        int[][] made = {{2997, 8, DONE}, {2998, 0, BEGUN}, {2999, 0, NEW}};
        for (int[] row : made) {
            BeginJudge x = spent("unit B{var v=8;}", row[0], "do B.v;");
            Check.same("MADE behind " + row[0], row[1], x.value(1, name('v')));
            Check.same("B behind " + row[0], row[2], x.state(1));
        }
    }

    /** FUNCTIONS of A and B (both without static MEMBERS), n of them, each called by the one ahead of it; the last gives the SUM. */
    private static String tower(int n, String sum) {
        StringBuilder s = new StringBuilder("unit A{");
        for (int i = 0; i < n; i++) {
            if (i == 11) {
                s.append("}unit B{");
            }
            s.append("fun ").append((char) ('a' + i)).append("{give ").append(i < n - 1 ? called(i + 1) : sum).append(";}");
        }
        return s + (n > 11 ? "}" : "}unit B{}");
    }

    private static String called(int i) {
        return (i < 11 ? "A." : "B.") + (char) ('a' + i) + "()";
    }

    /** "or more than 20 be OPEN": by a FUNCTION. */
    private static void openByAFunction() {
        int[][] due = {{19, 0}, {20, 0}, {21, 1}};
        for (int[] row : due) {
            int n = row[0];
            BeginJudge x = Check.told(tower(n, "5") + "main{do A.a();}");
            lazyIs(x, n + " OPEN", 0, 0, 0, 2, 2, 0, n + 2 + 1 - row[1], row[1]);
            BeginJudge y = Check.told(tower(n, "fail") + "main{do A.a();}");
            lazyIs(y, n + " OPEN, a FAILURE", 0, 0, 1 - row[1], 2, 2, 0, n + 2 + 1 - row[1], row[1]);
        }
        // A static part is OPEN too.
        int[][] inside = {{18, DONE, 0}, {19, DONE, 0}, {20, BEGUN, 1}};
        for (int[] row : inside) {
            BeginJudge x = Check.told(tower(row[0], "5") + "unit C{var v=A.a();}main{do C.v;}");
            Check.same("C with " + row[0], row[1], x.state(2));
            Check.same("TOO MUCH with " + row[0], row[2], x.lazy(7));
            Check.same("its VARIABLE with " + row[0], row[2] == 0 ? 5 : 0, x.value(2, name('v')));
        }
        BeginJudge z = Check.told("unit A{fun f{give A.f();}}main{do A.f();}");
        lazyIs(z, "a FUNCTION that calls itself", 0, 0, 0, 1, 1, 0, 22, 1);
    }

    /** "or more than 20 be OPEN": by a UNIT. */
    private static void openByAUnit() {
        int[][] due = {{18, DONE, 0}, {19, DONE, 0}, {20, NEW, 1}};
        for (int[] row : due) {
            BeginJudge x = Check.told(tower(row[0], "C.v") + "unit C{var v;}main{do A.a();}");
            Check.same("C with " + row[0], row[1], x.state(2));
            Check.same("TOO MUCH with " + row[0], row[2], x.lazy(7));
            Check.same("WORK with " + row[0], row[0] + 2 + 1 + (row[2] == 0 ? 1 : 0), x.lazy(6));
            BeginJudge y = Check.told(tower(row[0], "C.v") + "unit C{var v;}main{do C.v;do A.a();}");
            Check.same("DONE already, with " + row[0], 0, y.lazy(7));
        }
        int[][] above = {{18, DONE, DONE, 0}, {19, NEW, BEGUN, 1}, {20, NEW, NEW, 1}};
        for (int[] row : above) {
            BeginJudge x = Check.told(tower(row[0], "D.v") + "unit C{}unit D:C{var v;}main{do A.a();}");
            Check.same("ABOVE with " + row[0], row[1], x.state(2));
            Check.same("D with " + row[0], row[2], x.state(3));
            Check.same("TOO MUCH with " + row[0], row[3], x.lazy(7));
        }
        // 20 OPEN at a SURPRISE: C, 18 FUNCTIONS, D.
        BeginJudge x = Check.told(tower(18, "D.v") + "unit C{var w;do A.a();}unit D{do D.v;var v=1;}main{do C.w;}");
        Check.same("how many are OPEN", 20, x.surprise(0, 4));
        Check.same("the first", 299, x.trace(0, 0));
        Check.same("the second", 0, x.trace(0, 1));
        Check.same("the last FUNCTION", 100 + 17, x.trace(0, 18));
        Check.same("the last", 399, x.trace(0, 19));
        Check.same("no more", -1, x.trace(0, 20));
    }

    /** What was OPEN is OPEN no more behind a FUNCTION's end, a UNIT's, and behind a FAILURE. */
    private static void openAgainBehindIt() {
        BeginJudge x = Check.told(tower(20, "fail") + "main{do A.a();do A.a();do A.a();}");
        lazyIs(x, "a FAILURE with 20 OPEN", 0, 0, 3, 2, 2, 0, 3 * 21 + 2, 0);
        BeginJudge y = Check.told(tower(20, "5+5") + "main{do A.a()+A.a();do A.a();}");
        lazyIs(y, "done with 20 OPEN", 0, 0, 0, 2, 2, 0, 3 * 22 + 2, 0);
        BeginJudge z = Check.told(tower(19, "C.v+D.v") + "unit C{var v;}unit D{var v;}main{do A.a();}");
        lazyIs(z, "one UNIT behind the other with 20 OPEN", 0, 0, 0, 4, 4, 0, 19 + 2 + 4, 0);
        BeginJudge w = Check.told(tower(19, "C.v") + "unit C{var v;do fail;}main{do A.a();do A.a();do A.a();}");
        lazyIs(w, "a UNIT that is BROKEN with 20 OPEN", 0, 0, 3, 3, 2, 1, 3 * 20 + 3 + 1, 0);
    }

    /** "the RUN ends there (that is not done ..; nor anything more; what is BEGUN stays so; its STEP has not FAILED)". */
    private static void tooMuchEndsTheRun() {
        BeginJudge x = Check.told("unit A{var v;A.v=1;do C.f();A.v=2;}unit B:A{var v=3;}unit C{fun f{give C.f();}var v;}"
                + "main{do fail;do B.v;do fail;C.v=9;}");
        Check.same("TOO MUCH", 1, x.lazy(7));
        Check.same("the first STEP alone FAILED", 1, x.lazy(2));
        int[] due = {BEGUN, BEGUN, DONE};
        for (int u = 0; u < 3; u++) {
            Check.same("state " + u, due[u], x.state(u));
            Check.same("not BROKEN", -1, x.broken(u, 0));
            Check.same("not BROKEN", -1, x.broken(u, 1));
            Check.same("not BROKEN", -1, x.broken(u, 2));
        }
        Check.same("what was done stays", 1, x.value(0, name('v')));
        Check.same("nothing more is", 0, x.value(1, name('v')));
        Check.same("nor by a later STEP", 0, x.value(2, name('v')));
        Check.same("BEGUN ones", 3, x.lazy(3));
        Check.same("DONE ones", 1, x.lazy(4));
        Check.same("BROKEN ones", 0, x.lazy(5));
    }

    /** "EAGER by an ORDER (all UNITS, each once): each is TOUCHED in turn (a FAILURE is over there), then MAIN." */
    private static void eagerThenMain() {
        BeginJudge x = Check.told("unit A{do fail;}unit B{do fail;}unit C{var v;}main{do C.v;do fail;}");
        int[] due = {0, 0, 1, 3, 1, 2, 3 + 2 + 2, 0};
        for (int order : new int[] {12, 21, 102, 120, 201, 210}) {
            for (int what = 0; what < 8; what++) {
                Check.same("eager " + order + "," + what, due[what], x.eager(order, what));
            }
        }
        Check.same("without UNITS just MAIN", 1, Check.told("main{do 1;}").eager(0, 6));
        Check.same("without MAIN just the UNITS", 1, Check.told("unit A{}").eager(0, 6));
        // Those TOUCHED already are not BEGUN anew; a BROKEN one TOUCHED in turn breaks no other.
        BeginJudge y = Check.told("unit A{do B.v;}unit B{var v=fail;}unit C{}");
        Check.same("A, B BROKEN, C DONE", 2, y.eager(12, 5));
        Check.same("B, then A by it", 2, y.eager(102, 5));
        Check.same("WORK: A, TERM, B, TERM, C", 5, y.eager(12, 6));
        Check.same("WORK: B, TERM, A, TERM, C", 5, y.eager(102, 6));
        Check.same("no STEP", 0, y.eager(12, 2));
    }

    /** TOO MUCH by EAGER: the WORK of the UNITS and of MAIN together. */
    private static void eagerTooMuch() {
        for (int n : new int[] {2998, 2999, 3000}) {
            // B begun ahead takes 1, its DO 1.
            BeginJudge x = spent("unit B{do 1;}", n, "");
            Check.same("LAZY has room for " + n, 0, x.lazy(7));
            Check.same("EAGER and " + n, n == 2998 ? 0 : 1, x.eager(1, 7));
            Check.same("WORK and " + n, 3000, x.eager(1, 6));
            Check.same("alike and " + n, n == 2998 ? 1 : -2, x.alike(1));
            Check.same("FEWEST and " + n, n == 2998 ? 0 : 1000000, x.fewest(0));
        }
        BeginJudge y = Check.told("unit A{do A.f();fun f{give A.f();}}unit B{do fail;}main{do fail;}");
        Check.same("no UNIT behind it", 1, y.eager(1, 3));
        Check.same("none is BROKEN", 0, y.eager(1, 5));
        Check.same("nor MAIN", 0, y.eager(1, 2));
        Check.same("one ahead of it", 2, y.eager(10, 3));
        Check.same("is BROKEN", 1, y.eager(10, 5));
        Check.same("nor MAIN", 0, y.eager(10, 2));
    }

    /** "An ORDER is told as a number, a digit for each UNIT, the first one the highest (0 ahead of it may be left out)." */
    private static void ordersOfAllUnits() {
        BeginJudge none = new BeginJudge();
        ordersAre(none, new int[] {0}, new int[] {1, 10, -1});
        BeginJudge one = Check.told("unit A{}");
        ordersAre(one, new int[] {0}, new int[] {1, 10, 9, -1});
        BeginJudge two = Check.told("unit A{}unit B{}");
        ordersAre(two, new int[] {1, 10}, new int[] {0, 2, 9, 11, 12, 20, 21, 100, 101, 110, -1, -10});
        BeginJudge three = Check.told("unit A{}unit B{}unit C{}");
        ordersAre(three, new int[] {12, 21, 102, 120, 201, 210}, new int[] {0, 1, 10, 11, 13, 20, 100, 103, 112, 211, 220, 213, 1012, 1210, 2100, -12});
        BeginJudge seven = Check.told("unit A{}unit B{}unit C{}unit D{}unit E{}unit F{}unit G{}");
        ordersAre(seven, new int[] {123456, 123465, 654321, 1023456, 6543201, 6543210},
                new int[] {12345, 123455, 123457, 65432, 6543211, 6543217, 6543219, 6543220, 7654321, 7543210, 9123456, 10123456, 16543210, -123456, -6543210});
        // 4,294,967,296 more would wrap to the same number.
        ordersAre(seven, new int[] {123456}, new int[] {Integer.MAX_VALUE, Integer.MIN_VALUE, Integer.MIN_VALUE + 123456});
        // The first one is the highest digit.
        BeginJudge x = Check.told("unit A{var v=1;B.w=2;}unit B{do A.v;var w=3;}");
        Check.same("B ahead of A", 1, x.eager(10, 1));
        Check.same("A ahead of B", 0, x.eager(1, 1));
    }

    private static void ordersAre(BeginJudge x, int[] fine, int[] wrong) {
        for (int order : fine) {
            Check.same("an ORDER " + order, 0, x.eager(order, 7));
            Check.same("an ORDER " + order, 1, x.alike(order));
            Check.same("an ORDER " + order, 0, x.breaks(order));
        }
        int refused = x.status(1);
        for (int order : wrong) {
            Check.throwsIt("no ORDER " + order, Check.ILLEGAL, () -> x.eager(order, 7));
            Check.throwsIt("no ORDER " + order, Check.ILLEGAL, () -> x.alike(order));
            Check.throwsIt("no ORDER " + order, Check.ILLEGAL, () -> x.breaks(order));
        }
        Check.same("all counted", refused + 3 * wrong.length, x.status(1));
    }

    /** "FEWEST: the least number of SURPRISES of EAGER by any ORDER (what is TOO MUCH counts as 1,000,000)." */
    private static void fewestAndTooMuch() {
        fewestIs("", 0, 0, 1);
        fewestIs("unit A{}", 0, 0, 1);
        fewestIs("unit A{do A.v;var v=1;}", 1, 0, 1);
        fewestIs("unit A{}unit B{}", 0, 1, 2);
        fewestIs("unit A{fun f{give A.f();}do A.f();}", 1000000, 0, 1);
        // A ahead: B fails within A, and nothing dear is done; B ahead: A's static part has no end.
        String either = "unit A{var w;do B.v;do A.f();fun f{give A.f();}}unit B{var v;A.w=1;do fail;}";
        fewestIs(either, 0, 1, 1);
        Check.same("A ahead", 0, Check.told(either).eager(1, 7));
        Check.same("B ahead", 1, Check.told(either).eager(10, 7));
        // The only ORDER that is not TOO MUCH has 3 SURPRISES.
        String dear = either.replace("var v;A.w", "do B.s+B.s+B.s;var s=1;var v;A.w");
        fewestIs(dear, 3, 1, 1);
        // SURPRISES of MAIN count, too: G begins in MAIN or ahead, and sees itself.
        fewestIs("unit A{}unit B{do B.v+B.v;var v=1;}main{do B.v;}", 2, 1, 2);
        fewestIs("unit A{do B.v;var w=1;}unit B{do A.w;var v=1;}", 1, 1, 2);
        fewestIs("unit A{do B.v;var w=1;}unit B{do A.w+A.w;var v=1;}", 1, 10, 1);
        // MAIN is TOO MUCH by each ORDER, in whatever state it finds A: BROKEN, or, with D ahead of all, DONE.
        fewestIs("unit A{do C.w;var x;}unit B{do A.x;do fail;}unit C{var w;do D.z;do A.x;do fail;}unit D{var z;do C.w;do fail;}"
                + DEAR.replace("unit A", "unit E").replace("A.", "E.") + "main{do E.c()+E.c()+E.c()+E.c()+E.c()+E.c();}", 1000000, 1234, 120);
    }

    private static void fewestIs(String text, int... due) {
        BeginJudge x = Check.told(text);
        for (int what = 2; what >= 0; what--) {
            Check.same("fewest " + what + " of " + text, due[what], x.fewest(what));
        }
        Check.same("by that ORDER: " + text, due[0] == 1000000 ? 1 : due[0], x.eager(due[1], due[0] == 1000000 ? 7 : 0));
    }

    /** "MAY TOUCH of a UNIT, directly: the one ABOVE it, and by MEMBERS that are ON but FUNCTIONS all UNITS of which ..". */
    private static void mayTouch() {
        String[] members = {"", "const k=1;", "var x;", "var x=1;", "do B.k;", "do fail;", "do B.v;", "B.v=1;", "do B.f();", "var x=B.v;", "var x=1+(2*B.v);",
            "do A.y;var y;", "A.y=B.v;var y;", "fun f{give B.v;}", "fun f{B.v=1;give 1;}"};
        int[] due = {0, 0, 0, 0, 0, 0, 2, 2, 2, 2, 2, 1, 3, 0, 0};
        for (int i = 0; i < members.length; i++) {
            String text = "unit A{" + members[i] + "}unit B{const k=1;var v;fun f{give 1;}}";
            BeginJudge x = Check.told(text);
            Check.same("touches of " + members[i], due[i], x.touches(0));
            Check.same("none by B", 0, x.touches(1));
            for (int m = 0; m < x.unit(0, 2); m++) {
                x.turn(0, m);
            }
            Check.same("none if all is OFF: " + members[i], 0, x.touches(0));
        }
        BeginJudge y = Check.told("unit A{}unit B:A{var v;}unit C:B{do B.v;}");
        Check.same("ABOVE alone", 1, y.touches(1));
        Check.same("ABOVE and a VARIABLE of it", 2, y.touches(2));
        y.turn(2, 0);
        Check.same("ABOVE is never OFF", 2, y.touches(2));
        BeginJudge all = Check.told("unit A{var v;do A.v+B.v+C.v+D.v;E.v=F.v+G.v;}unit B{var v;}unit C{var v;}unit D{var v;}unit E{var v;}unit F{var v;}unit G{var v;}");
        Check.same("all seven", 127, all.touches(0));
    }

    /** "or a FUNCTION is called, in its SUMS, and in those FUNCTIONS, and so on (ON or OFF)". */
    private static void mayTouchByFunctions() {
        // Each FUNCTION calls the next; the last calls the first.
        StringBuilder s = new StringBuilder("unit A{do B.f();}");
        for (char u = 'B'; u <= 'G'; u++) {
            s.append("unit ").append(u).append("{fun f{give ").append(u == 'G' ? 'B' : (char) (u + 1)).append(".f();}}");
        }
        BeginJudge x = Check.told(s.toString());
        Check.same("all but itself", 126, x.touches(0));
        for (int u = 1; u < 7; u++) {
            Check.same("none by FUNCTIONS alone", 0, x.touches(u));
            x.turn(u, 0);
        }
        Check.same("by FUNCTIONS that are OFF", 126, x.touches(0));
        x.turn(0, 0);
        Check.same("the MEMBER that calls is OFF", 0, x.touches(0));
        BeginJudge y = Check.told("unit A{do A.f();fun f{give A.f();}fun g{give B.v;}}unit B{var v;}");
        Check.same("one that calls itself, one that is not called", 1, y.touches(0));
        BeginJudge z = Check.told("unit A{do A.f();fun f{B.v=1;C.v=2;B.v=3;D.v=4;give E.k;}}unit B{var v;}unit C{var v;}unit D{var v;}unit E{const k=1;}");
        Check.same("by all its SETS", 1 + 2 + 4 + 8, z.touches(0));
    }

    /** "REACH: these, and all that these MAY TOUCH, and so on. RING: all that it REACHES and that REACH it (itself too, if it REACHES itself)." */
    private static void reachesAndRings() {
        BeginJudge none = Check.told("unit A{}");
        Check.same("none", 0, none.reach(0));
        Check.same("none", 0, none.ring(0));
        BeginJudge self = Check.told("unit A{var v=A.v;}");
        Check.same("itself", 1, self.reach(0));
        Check.same("itself", 1, self.ring(0));
        BeginJudge two = Check.told("unit A{var v=B.v;}unit B{var v=A.v;}unit C{var v=A.v;}unit D{var v;}");
        int[] reach = {3, 3, 3, 0};
        int[] ring = {3, 3, 0, 0};
        for (int u = 0; u < 4; u++) {
            Check.same("reach " + u, reach[u], two.reach(u));
            Check.same("ring " + u, ring[u], two.ring(u));
        }
        StringBuilder row = new StringBuilder();
        for (char u = 'A'; u < 'G'; u++) {
            row.append("unit ").append(u).append("{var v=").append((char) (u + 1)).append(".v;}");
        }
        BeginJudge open = Check.told(row + "unit G{var v;}");
        BeginJudge closed = Check.told(row + "unit G{var v=A.v;}");
        for (int u = 0; u < 7; u++) {
            Check.same("a row's reach " + u, 127 & -2 << u, open.reach(u));
            Check.same("a row has no ring " + u, 0, open.ring(u));
            Check.same("all reach all " + u, 127, closed.reach(u));
            Check.same("one ring " + u, 127, closed.ring(u));
        }
        closed.turn(6, 0);
        Check.same("the ring is open", 0, closed.ring(3));
        closed.undo();
        Check.same("and closed again", 127, closed.ring(3));
    }

    /** "An ORDER BREAKS (u, v), two UNITS, if u MAY TOUCH v directly, and v is behind u in it." */
    private static void ordersThatBreak() {
        BeginJudge self = Check.told("unit A{var v=A.v;}unit B{}");
        Check.same("itself is no couple", 0, self.breaks(1));
        Check.same("itself is no couple", 0, self.least(0));
        BeginJudge x = Check.told("unit A{var v=B.v;var w=B.v+B.v;}unit B{var v=C.v;}unit C{var v;}");
        int[][] due = {{12, 2}, {21, 1}, {102, 1}, {120, 1}, {201, 1}, {210, 0}};
        for (int[] row : due) {
            Check.same("breaks " + row[0], row[1], x.breaks(row[0]));
        }
        Check.same("the fewest", 0, x.least(0));
        Check.same("the least ORDER", 210, x.least(1));
        BeginJudge none = Check.told("unit A{}unit B{}unit C{}unit D{}unit E{}unit F{}unit G{}");
        Check.same("none", 0, none.least(0));
        Check.same("the least of all", 123456, none.least(1));
        Check.same("without UNITS", 0, new BeginJudge().least(0));
        Check.same("without UNITS", 0, new BeginJudge().least(1));
        Check.same("one UNIT", 0, Check.told("unit A{}").least(1));
        StringBuilder s = new StringBuilder();
        for (char u = 'A'; u <= 'G'; u++) {
            s.append("unit ").append(u).append("{var v;do ").append("A.v+B.v+C.v+D.v+E.v+F.v+G.v;}");
        }
        BeginJudge all = Check.told(s.toString());
        Check.same("each couple one way", 21, all.least(0));
        Check.same("all are as good", 123456, all.least(1));
        Check.same("all are as good", 21, all.breaks(6543210));
    }
}
