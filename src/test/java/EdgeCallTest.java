import java.util.function.IntFunction;
import java.util.function.Supplier;

/**
 * The boundary cases that promises 1 to 27 and part 3 of "Terms" name for each call: a test for each
 * sentence (quoted above it), just inside the boundary, at it and just outside it. No object is used
 * for more than 512 calls, as what later ones answer is free.
 */
public final class EdgeCallTest {
    private static final int LOW = Integer.MIN_VALUE;
    private static final int HIGH = Integer.MAX_VALUE;
    // Two UNITS of 5 and 3 MEMBERS, two SURPRISES, two STEPS; all 2 ORDERS are alike but in SURPRISES.
    private static final String FULL = "unit A{var x=B.y+1;var z=3;const k=4;fun f{A.x=2;give 5;}do 1;}unit B{var y=A.z+A.x;B.w=A.f();var w;}main{do A.x;do fail;}";

    /** A call that answers, or throws. */
    private interface Call {
        long on(BeginJudge x);
    }

    private EdgeCallTest() {
    }

    public static void main(String[] args) {
        promise1NoUnitsNoSteps();
        promise2UpTo600();
        promise2HighestFirst();
        promise2DoingNothing();
        promise3FirstBytes();
        promise3NotZeroToTheTape();
        promise3AllAnew();
        promise3AllStays();
        promise4PlaceOfTheLatest();
        promise5Places();
        promise5ItIsThere();
        promise5NoSuch();
        promise6OnAndOff();
        promise6NoSuch();
        promise7TheLatestSixteen();
        promise7WhatCounts();
        promise7NoneCould();
        promise8Fullest();
        promise9And10Edges();
        promise11And12Edges();
        promise13Names();
        promise14States();
        promise15NotSoMany();
        promise16And17Edges();
        promise18NotBroken();
        promise19Either();
        promise20To25Edges();
        promise26Print();
        promise27Counted();
        theFirstToldIsThrown();
        whatThrowsChangesNothing();
        askedNothingStaysChanged();
        fiveHundredAndTwelveCalls();
        Check.end();
    }

    private static BeginJudge full() {
        return Check.told(FULL);
    }

    private static int name(char f) {
        return f - 'a';
    }

    private static void refused(String what, String due, Supplier<BeginJudge> made, Call call) {
        BeginJudge x = made.get();
        int elements = x.status(0);
        int arguments = x.status(1);
        Check.throwsIt(what, due, () -> call.on(x));
        Check.same("counted: " + what, elements + (due.equals(Check.NO_SUCH) ? 1 : 0), x.status(0));
        Check.same("counted: " + what, arguments + (due.equals(Check.ILLEGAL) ? 1 : 0), x.status(1));
    }

    /** A what of 0 to last is answered, each other refused. */
    private static void whatUpTo(String what, int last, BeginJudge x, IntFunction<Call> ask) {
        for (int i = 0; i <= last; i++) {
            Call call = ask.apply(i);
            Check.holds(what + " " + i, !Check.answer(() -> call.on(x)).endsWith("Exception"));
        }
        for (int i : new int[] {LOW, -2, -1, last + 1, last + 2, HIGH}) {
            refused(what + " " + i, Check.ILLEGAL, () -> x, ask.apply(i));
        }
    }

    /** An index of 0 to count - 1 is answered, each other refused. */
    private static void indexBelow(String what, int count, BeginJudge x, IntFunction<Call> ask) {
        for (int i = 0; i < count; i++) {
            Call call = ask.apply(i);
            Check.holds(what + " " + i, !Check.answer(() -> call.on(x)).endsWith("Exception"));
        }
        for (int i : new int[] {LOW, -2, -1, count, count + 1, HIGH}) {
            refused(what + " " + i, Check.NO_SUCH, () -> x, ask.apply(i));
        }
    }

    /** Promise 1: "No UNITS, no STEPS." */
    private static void promise1NoUnitsNoSteps() {
        BeginJudge x = new BeginJudge();
        for (int what = 0; what < 6; what++) {
            Check.same("1: told " + what, 0, x.told(what));
        }
        for (int what = 0; what < 8; what++) {
            Check.same("1: lazy " + what, 0, x.lazy(what));
            Check.same("1: eager " + what, 0, x.eager(0, what));
        }
        Check.same("1: fault", -1, x.fault());
        Check.same("1: undo", -1, x.undo());
        Check.same("1: begun", -1, x.begun(0));
        Check.same("1: alike", 1, x.alike(0));
        Check.same("1: fewest", 0, x.fewest(0));
        Check.same("1: fewest", 0, x.fewest(1));
        Check.same("1: the one ORDER", 1, x.fewest(2));
        Check.same("1: least", 0, x.least(0) + x.least(1));
        Check.same("1: breaks", 0, x.breaks(0));
        Check.same("1: print", 0, x.print());
        Check.same("1: status", 0, x.status(0) + x.status(1));
        Call[] calls = {y -> y.move(0, 0, 0), y -> y.turn(0, 0), y -> y.unit(0, 0), y -> y.member(0, 0, 0), y -> y.value(0, 0), y -> y.state(0),
            y -> y.surprise(0, 0), y -> y.trace(0, 0), y -> y.broken(0, 0), y -> y.touches(0), y -> y.reach(0), y -> y.ring(0)};
        for (int i = 0; i < calls.length; i++) {
            refused("1: no UNIT, call " + i, Check.NO_SUCH, BeginJudge::new, calls[i]);
        }
        Call[] orders = {y -> y.eager(1, 0), y -> y.alike(1), y -> y.breaks(1), y -> y.text(1)};
        for (int i = 0; i < orders.length; i++) {
            refused("1: no ORDER, no bytes, call " + i, Check.ILLEGAL, BeginJudge::new, orders[i]);
        }
        Check.same("1: a text of no bytes", 0, x.text(0));
    }

    /** Promise 2: "how many there are; NONE .. if there would be more than 600". */
    private static void promise2UpTo600() {
        BeginJudge x = new BeginJudge();
        for (int i = 1; i <= 29; i++) {
            Check.same("2: feed", 20 * i, x.feed(1, 2, 3, 4, 5));
        }
        Check.same("2: just 600", 600, x.feed(1, 2, 3, 4, 5));
        Check.same("2: more than 600", -1, x.feed(1, 2, 3, 4, 5));
        Check.same("2: still", -1, x.feed(1, 2, 3, 4, 5));
        x.text(0);
        Check.same("2: room again", 20, x.feed(1, 2, 3, 4, 5));
    }

    /** Promise 2: "Twenty bytes come on the TAPE, of each number the highest first". */
    private static void promise2HighestFirst() {
        // "unit", " A{v", "ar x", "=7;}", "main": each byte has its own place.
        BeginJudge x = new BeginJudge();
        x.feed(0x756e6974, 0x20417b76, 0x61722078, 0x3d373b7d, 0x6d61696e);
        x.feed(0x7b646f20, 0x412e783b, 0x7d202020, 0x20202020, 0x20202020);
        Check.same("2: the highest byte first", 1, x.text(40));
        Check.same("2: the number", 7, x.value(0, name('x')));
        // Bytes 128 to 255 and negative numbers.
        for (int place = 0; place < 20; place++) {
            int[] n = {0x20202020, 0x20202020, 0x20202020, 0x20202020, 0x20202020};
            n[place / 4] |= 255 << 24 - place % 4 * 8;
            x.feed(n[0], n[1], n[2], n[3], n[4]);
            Check.same("2: a strange byte", -9, x.text(20));
            Check.same("2: its place", place, x.fault());
        }
    }

    /** Promise 2: "NONE, doing nothing". */
    private static void promise2DoingNothing() {
        BeginJudge x = new BeginJudge();
        Check.feed(x, "unit A{var x=7;}main{do A.x;}" + " ".repeat(571));
        x.feed(0x21212121, 0x21212121, 0x21212121, 0x21212121, 0x21212121);
        Check.same("2: as many as there were", 600, x.told(4));
        Check.same("2: as they were", 1, x.text(600));
        Check.same("2: as they were", 7, x.value(0, name('x')));
        Check.same("2: it is not refused", 0, x.status(0) + x.status(1));
    }

    /** Promise 3: "The first n bytes of the TAPE (empty then)". */
    private static void promise3FirstBytes() {
        String text = "unit A{}unit B{}";
        int[][] due = {{0, 0}, {8, 1}, {16, 2}, {7, -9}, {9, -9}, {15, -9}};
        for (int[] row : due) {
            BeginJudge x = new BeginJudge();
            Check.feed(x, text);
            Check.same("3: the first " + row[0], row[1], x.text(row[0]));
            Check.same("3: empty then", 0, x.told(4));
            refused("3: nothing is left", Check.ILLEGAL, () -> x, y -> y.text(1));
            Check.same("3: the next begin at 0", 20, x.feed(0, 0, 0, 0, 0));
        }
    }

    /** Promise 3: "IllegalArgumentException: n is not 0 to the TAPE's bytes (it stays)." */
    private static void promise3NotZeroToTheTape() {
        for (int bytes : new int[] {0, 20, 40, 580, 600}) {
            for (int n : new int[] {LOW, -2, -1, bytes + 1, bytes + 20, 601, HIGH}) {
                BeginJudge x = new BeginJudge();
                Check.feed(x, " ".repeat(bytes));
                refused("3: " + n + " of " + bytes, Check.ILLEGAL, () -> x, y -> y.text(n));
                Check.same("3: it stays", bytes, x.told(4));
                Check.same("3: " + bytes + " of " + bytes, 0, x.text(bytes));
            }
            BeginJudge x = new BeginJudge();
            Check.feed(x, " ".repeat(bytes));
            Check.same("3: 0 of " + bytes, 0, x.text(0));
            Check.same("3: empty", 0, x.told(4));
        }
    }

    /** Promise 3: "tell all anew (nothing can be taken back): how many UNITS". */
    private static void promise3AllAnew() {
        BeginJudge x = full();
        x.turn(0, 0);
        x.move(1, 0, 2);
        Check.same("3: how many UNITS", 2, Check.tell(x, FULL));
        Check.same("3: nothing can be taken back", 0, x.told(5));
        Check.same("3: undo", -1, x.undo());
        Check.sameText("3: all anew", fingerprint(full()), fingerprint(x));
        Check.same("3: none", 0, x.text(0));
        Check.sameText("3: all is gone", fingerprint(new BeginJudge()), fingerprint(x));
        String seven = "unit A{}unit B{}unit C{}unit D{}unit E{}unit F{}unit G{}";
        for (int n = 0; n <= 7; n++) {
            Check.same("3: how many UNITS", n, Check.tell(x, seven.substring(0, 8 * n)));
            Check.same("3: how many UNITS", n, x.told(0));
        }
    }

    /** Promise 3: "or the FAULT less 10 (all stays, but the TAPE is empty)". */
    private static void promise3AllStays() {
        String[] texts = {"?", "main{do 1000;}", "main{do 1+1+1+1+1+1+1+1+1;}", "unit C{var q;}unit C{}", "unit C{var q;do C.r;}main{do C.q;}"};
        for (int fault = 1; fault <= 5; fault++) {
            BeginJudge x = full();
            x.turn(0, 0);
            x.move(1, 0, 2);
            BeginJudge y = full();
            y.turn(0, 0);
            y.move(1, 0, 2);
            Check.same("3: the FAULT less 10", fault - 10, Check.tell(x, texts[fault - 1]));
            Check.same("3: the TAPE is empty", 0, x.told(4));
            Check.sameText("3: all stays behind FAULT " + fault, fingerprint(y), fingerprint(x));
            Check.same("3: it is not refused", 0, x.status(1));
            Check.same("3: what can be taken back stays", 1, x.undo());
            Check.same("3: what can be taken back stays", 0, x.undo());
            Check.sameText("3: as told", fingerprint(full()), fingerprint(x));
        }
    }

    /** Promise 4: "The place of the FAULT of the latest text() that threw nothing; NONE without one, and ahead of any." */
    private static void promise4PlaceOfTheLatest() {
        BeginJudge x = new BeginJudge();
        Check.same("4: ahead of any", -1, x.fault());
        refused("4: a text() that throws", Check.ILLEGAL, () -> x, y -> y.text(1));
        Check.same("4: ahead of any that threw nothing", -1, x.fault());
        Check.tell(x, "?");
        Check.same("4: at 0", 0, x.fault());
        Check.feed(x, "main");
        Check.same("4: fed, not told", 0, x.fault());
        refused("4: a text() that throws", Check.ILLEGAL, () -> x, y -> y.text(21));
        Check.same("4: the latest that threw nothing", 0, x.fault());
        x.text(4);
        Check.same("4: at the length", 4, x.fault());
        Check.tell(x, " ".repeat(599) + "?");
        Check.same("4: at the last byte", 599, x.fault());
        Check.tell(x, "unit A{" + " ".repeat(593));
        Check.same("4: at the greatest length", 600, x.fault());
        x.text(0);
        Check.same("4: without one", -1, x.fault());
    }

    private static String names(BeginJudge x, int unit) {
        StringBuilder s = new StringBuilder();
        for (int i = 0; i < x.unit(unit, 2); i++) {
            s.append((char) ('a' + x.member(unit, i, 2)));
        }
        return s.toString();
    }

    private static BeginJudge twelve() {
        StringBuilder s = new StringBuilder("unit A{}unit B{var q;}unit C{");
        for (char f = 'a'; f <= 'l'; f++) {
            s.append("var ").append(f).append("=").append(f - 'a' + 1).append(";");
        }
        return Check.told(s + "}main{do C.a;}");
    }

    /** Promise 5: "MEMBER i of a UNIT comes to place j among its MEMBERS (those between go one place on): 1". */
    private static void promise5Places() {
        String all = "abcdefghijkl";
        int[][] moves = {{0, 11}, {11, 0}, {0, 1}, {1, 0}, {10, 11}, {11, 10}, {3, 8}, {8, 3}};
        for (int[] row : moves) {
            BeginJudge x = twelve();
            StringBuilder due = new StringBuilder(all);
            char moved = due.charAt(row[0]);
            due.deleteCharAt(row[0]).insert(row[1], moved);
            Check.same("5: move", 1, x.move(2, row[0], row[1]));
            Check.sameText("5: from " + row[0] + " to " + row[1], due.toString(), names(x, 2));
            Check.sameText("5: no other UNIT", "q", names(x, 1));
            Check.same("5: can be taken back", 1, x.told(5));
        }
        // What is OFF stays OFF at its new place.
        BeginJudge y = twelve();
        y.turn(2, 0);
        y.move(2, 0, 11);
        Check.same("5: it is OFF there", 0, y.member(2, 11, 1));
        Check.same("5: and ON here", 1, y.member(2, 0, 1));
    }

    /** Promise 5: "0: it is there (nothing is done)". */
    private static void promise5ItIsThere() {
        BeginJudge x = twelve();
        for (int i = 0; i < 12; i++) {
            Check.same("5: it is there", 0, x.move(2, i, i));
        }
        Check.same("5: the one alone", 0, x.move(1, 0, 0));
        Check.sameText("5: nothing is done", "abcdefghijkl", names(x, 2));
        Check.same("5: nothing to be taken back", 0, x.told(5));
    }

    /** Promise 5: "NoSuchElementException: no such UNIT, MEMBER". */
    private static void promise5NoSuch() {
        BeginJudge x = twelve();
        for (int u : new int[] {LOW, -1, 3, 7, HIGH}) {
            refused("5: UNIT " + u, Check.NO_SUCH, () -> x, y -> y.move(u, 0, 0));
        }
        for (int i : new int[] {LOW, -1, 12, 13, HIGH}) {
            refused("5: MEMBER " + i, Check.NO_SUCH, () -> x, y -> y.move(2, i, 0));
            refused("5: place " + i, Check.NO_SUCH, () -> x, y -> y.move(2, 0, i));
            refused("5: both " + i, Check.NO_SUCH, () -> x, y -> y.move(2, i, i));
        }
        refused("5: none in it", Check.NO_SUCH, () -> x, y -> y.move(0, 0, 0));
        refused("5: one in it", Check.NO_SUCH, () -> x, y -> y.move(1, 1, 0));
        refused("5: one in it", Check.NO_SUCH, () -> x, y -> y.move(1, 0, 1));
        Check.sameText("5: nothing is changed", "abcdefghijkl", names(x, 2));
        Check.same("5: nothing to be taken back", 0, x.told(5));
    }

    /** Promise 6: "A MEMBER becomes ON, if it is OFF, OFF, if it is ON: 1 it is ON now, 0 OFF." */
    private static void promise6OnAndOff() {
        BeginJudge x = twelve();
        for (int i : new int[] {0, 1, 10, 11}) {
            for (int due : new int[] {0, 1, 0}) {
                Check.same("6: turn", due, x.turn(2, i));
                Check.same("6: member", due, x.member(2, i, 1));
            }
        }
        Check.same("6: ON ones of all", 9, x.told(3));
        Check.same("6: MEMBERS of all", 13, x.told(2));
    }

    /** Promise 6: "NoSuchElementException". */
    private static void promise6NoSuch() {
        BeginJudge x = twelve();
        indexBelow("6: MEMBER", 12, x, i -> y -> y.turn(2, i));
        Check.same("6: only twelve of them were turned", 12, x.told(5));
        for (int u : new int[] {LOW, -1, 3, 7, HIGH}) {
            refused("6: UNIT " + u, Check.NO_SUCH, () -> x, y -> y.turn(u, 0));
        }
        refused("6: none in it", Check.NO_SUCH, () -> x, y -> y.turn(0, 0));
        refused("6: one in it", Check.NO_SUCH, () -> x, y -> y.turn(1, 1));
        Check.same("6: nothing more is changed", 12, x.told(5));
    }

    /** Promise 7: "(the latest 16 can be taken back): how many still can". */
    private static void promise7TheLatestSixteen() {
        for (int n : new int[] {1, 15, 16, 17, 31, 32, 33, 40}) {
            BeginJudge x = twelve();
            // print() tells where all MEMBERS stand, and which are OFF, in one call.
            long[] seen = new long[n + 1];
            seen[0] = x.print();
            for (int i = 0; i < n; i++) {
                if (i % 3 == 2) {
                    x.turn(2, i % 12);
                } else {
                    x.move(2, i * 5 % 12, (i * 5 + 1 + i % 11) % 12);
                }
                Check.same("7: as many as 16", Math.min(i + 1, 16), x.told(5));
                seen[i + 1] = x.print();
                Check.holds("7: it did something", seen[i + 1] != seen[i]);
            }
            int can = Math.min(n, 16);
            for (int i = 1; i <= can; i++) {
                Check.same("7: how many still can", can - i, x.undo());
                Check.same("7: as ahead of it, " + i + " of " + n, seen[n - i], x.print());
            }
            Check.same("7: none could", -1, x.undo());
            Check.same("7: nothing is done", seen[n - can], x.print());
            x.turn(2, 0);
            Check.same("7: again one", 1, x.told(5));
            Check.same("7: which can", 0, x.undo());
        }
    }

    /** Promise 7: "the latest move() that did something, turn()". */
    private static void promise7WhatCounts() {
        BeginJudge x = full();
        String told = fingerprint(full());
        x.turn(0, 0);
        x.move(0, 1, 1);
        refused("7: refused", Check.NO_SUCH, () -> x, y -> y.move(0, 0, 5));
        refused("7: refused", Check.NO_SUCH, () -> x, y -> y.turn(0, 5));
        x.lazy(0);
        x.fewest(0);
        Check.tell(x, "?");
        Check.same("7: one alone", 1, x.told(5));
        Check.same("7: the turn", 0, x.undo());
        Check.sameText("7: all is as ahead of it", told, fingerprint(x));
        x.move(0, 0, 4);
        Check.same("7: a move", 0, x.undo());
        BeginJudge z = full();
        z.move(0, 4, 1);
        z.lazy(0);
        z.fewest(0);
        Check.same("7: a move", 0, z.undo());
        Check.sameText("7: all is as ahead of it", told, fingerprint(z));
    }

    /** Promise 7: "NONE: none could". */
    private static void promise7NoneCould() {
        Check.same("7: new", -1, new BeginJudge().undo());
        BeginJudge x = full();
        Check.same("7: told anew", -1, x.undo());
        x.turn(0, 0);
        x.undo();
        Check.same("7: all are taken back", -1, x.undo());
        Check.same("7: and again", -1, x.undo());
        x.turn(0, 0);
        x.text(0);
        Check.same("7: told anew", -1, x.undo());
        Check.same("7: it is not refused", 0, x.status(0) + x.status(1));
    }

    /** Promise 8: each of the six, at the most that it can be; "another what". */
    private static void promise8Fullest() {
        StringBuilder s = new StringBuilder();
        for (char u = 'A'; u <= 'G'; u++) {
            s.append("unit ").append(u).append("{").append("do 1;".repeat(12)).append("}");
        }
        BeginJudge x = Check.told(s + "main{" + "do 1;".repeat(10) + "}");
        Check.feed(x, " ".repeat(600));
        for (int i = 0; i < 17; i++) {
            x.turn(6, i % 12);
        }
        int[] due = {7, 10, 84, 84 - 7, 600, 16};
        for (int what = 0; what < 6; what++) {
            Check.same("8: told " + what, due[what], x.told(what));
        }
        whatUpTo("8: what", 5, x, what -> y -> y.told(what));
        x.undo();
        Check.same("8: one more is OFF, as ahead of the 17th", 84 - 8, x.told(3));
        Check.same("8: one less can be taken back", 15, x.told(5));
    }

    /** Promises 9 and 10: no such UNIT, no such MEMBER, another what. */
    private static void promise9And10Edges() {
        BeginJudge x = full();
        indexBelow("9: UNIT", 2, x, u -> y -> y.unit(u, 0));
        whatUpTo("9: what", 4, x, what -> y -> y.unit(1, what));
        indexBelow("10: UNIT", 2, x, u -> y -> y.member(u, 0, 0));
        indexBelow("10: MEMBER of A", 5, x, i -> y -> y.member(0, i, 0));
        indexBelow("10: MEMBER of B", 3, x, i -> y -> y.member(1, i, 0));
        whatUpTo("10: what", 4, x, what -> y -> y.member(0, 0, what));
        BeginJudge z = twelve();
        indexBelow("10: MEMBER of twelve", 12, z, i -> y -> y.member(2, i, 4));
        indexBelow("10: MEMBER of one", 1, z, i -> y -> y.member(1, i, 4));
        indexBelow("10: MEMBER of none", 0, z, i -> y -> y.member(0, i, 4));
        BeginJudge first = Check.told("unit A{var v;do fail;}unit B{fun f{give fail+A.v;}}");
        Check.same("9: the first is a VARIABLE", 1, first.unit(0, 3));
        Check.same("9: the first is a FUNCTION", 1, first.unit(1, 4));
        Check.same("10: fail is a TERM", 1, first.member(0, 1, 3));
        Check.same("10: fail is a TERM", 2, first.member(1, 0, 3));
        // Counted are all, ON or OFF; "0 without" a SUM; NONE for what has no name, no number.
        BeginJudge k = Check.told("unit A{const k=0;const l=999;var v;var w=1+1+1+1+1+1+1+1;do ((1));A.v=(1+2);fun f{give 1;}"
                + "fun g{A.v=1+1;A.v=1;A.v=1;A.v=1;give (1)+2;}}unit B{}");
        int[] units = {0, -1, 8, 2, 2};
        int[][] due = {{0, 1, 10, 0, 0}, {0, 1, 11, 0, 999}, {1, 1, 21, 0, -1}, {1, 1, 22, 8, -1}, {2, 1, -1, 1, -1}, {3, 1, 21, 2, 0},
            {4, 1, 5, 1, 0}, {4, 1, 6, 2, 4}};
        for (int on = 1; on >= 0; on--) {
            for (int what = 0; what < 5; what++) {
                Check.same("9: unit 0," + what, units[what], k.unit(0, what));
                Check.same("9: an empty UNIT, " + what, new int[] {1, -1, 0, 0, 0}[what], k.unit(1, what));
                for (int i = 0; i < 8; i++) {
                    Check.same("10: member " + i + "," + what, what == 1 ? on : due[i][what], k.member(0, i, what));
                }
            }
            for (int i = 0; i < 8 && on == 1; i++) {
                k.turn(0, i);
            }
        }
    }

    /** Promises 11 and 12: another what, no ORDER. */
    private static void promise11And12Edges() {
        whatUpTo("11: what", 7, full(), what -> y -> y.lazy(what));
        whatUpTo("12: what", 7, full(), what -> y -> y.eager(1, what));
        for (int order : new int[] {LOW, -10, -1, 0, 2, 11, 12, 100, HIGH}) {
            refused("12: ORDER " + order, Check.ILLEGAL, EdgeCallTest::full, y -> y.eager(order, 0));
            refused("12: once for both, " + order, Check.ILLEGAL, EdgeCallTest::full, y -> y.eager(order, 8));
        }
        // All answers at their least, and STEPS, UNITS at their most.
        BeginJudge x = Check.told("unit A{do fail;var v;}unit B{do fail;var v;}unit C{do fail;var v;}unit D{do fail;var v;}unit E{do fail;var v;}"
                + "unit F{do fail;var v;}unit G{do fail;var v;}main{do A.v;do B.v;do C.v;do D.v;do E.v;do F.v;do G.v;do A.v;do A.v;do A.v;}");
        int[] lazy = {0, 0, 10, 7, 0, 7, 10 + 7 + 7, 0};
        int[] eager = {0, 0, 10, 7, 0, 7, 7 + 7 + 10, 0};
        for (int what = 0; what < 8; what++) {
            Check.same("11: lazy " + what, lazy[what], x.lazy(what));
            Check.same("12: eager " + what, eager[what], x.eager(6543210, what));
        }
    }

    /** Promise 13: "NoSuchElementException: also the UNIT has no such VARIABLE." */
    private static void promise13Names() {
        BeginJudge x = Check.told("unit A{var a=1;var z=26;const c=3;fun f{give 4;}}unit B{var c=7;}unit C{}main{do A.a+B.c;}");
        Check.same("13: a", 1, x.value(0, 0));
        Check.same("13: z", 26, x.value(0, 25));
        Check.same("13: a VARIABLE of that name elsewhere", 7, x.value(1, 2));
        for (int name : new int[] {LOW, -26, -1, 1, 2, 5, 24, 26, 27, 26 + 2, HIGH}) {
            refused("13: name " + name, Check.NO_SUCH, () -> x, y -> y.value(0, name));
        }
        for (int name : new int[] {-1, 0, 25, 26}) {
            refused("13: none in C", Check.NO_SUCH, () -> x, y -> y.value(2, name));
        }
        for (int unit : new int[] {LOW, -1, 3, 7, HIGH}) {
            refused("13: UNIT " + unit, Check.NO_SUCH, () -> x, y -> y.value(unit, 0));
        }
        x.turn(0, 0);
        Check.same("13: OFF, it is there and 0", 0, x.value(0, 0));
        // The UNITS ahead and behind have a and z: no name goes over into them.
        String ends = "var a=1;var z=2;}";
        BeginJudge seven = Check.told("unit A{" + ends + "unit B{" + ends + "unit C{" + ends + "unit D{" + ends + "unit E{" + ends + "unit F{" + ends
                + "unit G{" + ends);
        for (int unit = 0; unit < 7; unit++) {
            int u = unit;
            Check.same("13: a of " + u, 0, seven.value(u, 0));
            Check.same("13: z of " + u, 0, seven.value(u, 25));
            for (int name : new int[] {-26, -1, 26, 26 + 25}) {
                refused("13: name " + name + " of " + u, Check.NO_SUCH, () -> seven, y -> y.value(u, name));
            }
        }
    }

    /** Promise 14: each of the four; no such UNIT. */
    private static void promise14States() {
        BeginJudge x = Check.told("unit A{var x;}unit B{do fail;var x;}unit C{var x;}unit D{do D.f();fun f{give D.f();}}main{do A.x;do B.x;do D.f();}");
        int[] due = {2, 3, 0, 1};
        for (int u = 0; u < 4; u++) {
            Check.same("14: state " + u, due[u], x.state(u));
        }
        indexBelow("14: UNIT", 4, x, u -> y -> y.state(u));
    }

    /** Promise 15: "NONE: not so many, k is below 0". */
    private static void promise15NotSoMany() {
        BeginJudge x = full();
        int[][] due = {{LOW, -1}, {-1, -1}, {0, 0}, {1, 1}, {2, -1}, {6, -1}, {7, -1}, {HIGH, -1}};
        for (int[] row : due) {
            Check.same("15: begun " + row[0], row[1], x.begun(row[0]));
        }
        Check.same("15: it is not refused", 0, x.status(0) + x.status(1));
        BeginJudge none = Check.told("unit A{var v;}");
        Check.same("15: none", -1, none.begun(0));
        BeginJudge seven = Check.told("unit A{}unit B:A{}unit C:B{}unit D:C{}unit E:D{}unit F:E{}unit G:F{var v;}main{do G.v;}");
        Check.same("15: the seventh", 0, seven.begun(6));
        Check.same("15: no eighth", -1, seven.begun(7));
        // By LAZY, not by what was asked last.
        BeginJudge y = Check.told("unit A{var v;}unit B{var v;}main{do B.v;}");
        y.eager(1, 0);
        Check.same("15: by LAZY", 1, y.begun(0));
        Check.same("15: by LAZY", -1, y.begun(1));
    }

    /** Promises 16 and 17: no such SURPRISE, another what; "NONE: not so many, i is below 0". */
    private static void promise16And17Edges() {
        BeginJudge x = full();
        Check.same("16: SURPRISES", 2, x.lazy(0));
        indexBelow("16: SURPRISE", 2, x, k -> y -> y.surprise(k, 0));
        whatUpTo("16: what", 5, x, what -> y -> y.surprise(1, what));
        indexBelow("17: SURPRISE", 2, x, k -> y -> y.trace(k, 0));
        int[][] due = {{LOW, -1}, {-1, -1}, {0, 99}, {1, 199}, {2, -1}, {19, -1}, {20, -1}, {HIGH, -1}};
        for (int[] row : due) {
            Check.same("17: trace " + row[0], row[1], x.trace(0, row[0]));
        }
        indexBelow("16: none", 0, Check.told("unit A{var v=1;}main{do A.v;}"), k -> y -> y.surprise(k, 0));
        indexBelow("17: none", 0, Check.told("unit A{var v=1;}main{do A.v;}"), k -> y -> y.trace(k, 0));
        // Those of LAZY, not those of an EAGER RUN asked in between.
        BeginJudge z = Check.told("unit A{do A.v+A.v;var v=1;}unit B{var w;}main{do B.w;}");
        Check.same("16: two by EAGER", 2, z.eager(1, 0));
        refused("16: none by LAZY", Check.NO_SUCH, () -> z, y -> y.surprise(0, 0));
        // The STEP of MAIN: the first and the tenth.
        String unit = "do A.v;var v=1;}";
        BeginJudge ten = Check.told("unit A{" + unit + "unit B{" + unit.replace("A", "B") + "main{do A.v;" + "do 1;".repeat(8) + "do B.v;}");
        Check.same("16: the first STEP", 0, ten.surprise(0, 5));
        Check.same("16: the tenth STEP", 9, ten.surprise(1, 5));
        // Many SURPRISES: the most that 3,000 of WORK leave room for here.
        BeginJudge many = Check.told("unit A{do A.c()+A.c()+A.c()+A.c()+A.c()+A.c()+A.c()+A.c();var v=1;fun a{give A.v+A.v+A.v+A.v+A.v+A.v+A.v+A.v;}"
                + "fun b{give A.a()+A.a()+A.a()+A.a()+A.a()+A.a()+A.a()+A.a();}fun c{give A.b()+A.b()+A.b()+A.b()+A.b()+A.b()+A.b()+A.b();}}main{do A.v;}");
        int last = many.lazy(0) - 1;
        Check.same("16: TOO MUCH", 1, many.lazy(7));
        Check.same("16: the first's WORK: A.v, A, c, b, a, A.v", 6, many.surprise(0, 3));
        Check.same("16: the last's WORK is the last", 3000, many.surprise(last, 3));
        Check.same("16: OPEN by then", 4, many.surprise(last, 4));
        refused("16: one more", Check.NO_SUCH, () -> many, y -> y.surprise(last + 1, 3));
        refused("17: one more", Check.NO_SUCH, () -> many, y -> y.trace(last + 1, 0));
    }

    /** Promise 18: "(NONE: it is not BROKEN)", "(of 2; else NONE)", "(1, 2 NONE: it is not BROKEN)". */
    private static void promise18NotBroken() {
        BeginJudge x = Check.told("unit A{var v=fail;}unit B{var v=A.v;}unit C{var v;}unit D{var v;}unit E{do E.f();fun f{give E.f();}}"
                + "main{do A.v;do B.v;do C.v;do E.f();}");
        int[][] due = {{1, -1, 0}, {2, 0, 0}, {-1, -1, -1}, {-1, -1, -1}, {-1, -1, -1}};
        for (int u = 0; u < 5; u++) {
            for (int what = 0; what < 3; what++) {
                Check.same("18: broken " + u + "," + what, due[u][what], x.broken(u, what));
            }
        }
        indexBelow("18: UNIT", 5, x, u -> y -> y.broken(u, 0));
        whatUpTo("18: what", 2, x, what -> y -> y.broken(0, what));
        // Another what is refused too, if it is not BROKEN.
        whatUpTo("18: what of one that is not BROKEN", 2, x, what -> y -> y.broken(3, what));
    }

    /** Promise 19: "-2: one of both is TOO MUCH"; "that is DONE behind LAZY". */
    private static void promise19Either() {
        String endless = "unit A{fun f{give A.f();}var v;}";
        Check.same("19: neither", 1, Check.told(endless + "main{do A.v;}").alike(0));
        Check.same("19: both", -2, Check.told(endless + "main{do A.f();}").alike(0));
        Check.same("19: EAGER alone", -2, Check.told(endless + "unit B{do A.f();}main{do A.v;}").alike(1));
        // LAZY alone: B ahead of A fails in A, so that what has no end is not worked out.
        String lazyAlone = "unit A{var w;do B.v;do A.f();fun f{give A.f();}}unit B{var v;A.w=1;do fail;}main{do B.v;}";
        Check.same("19: LAZY is TOO MUCH", 1, Check.told(lazyAlone).lazy(7));
        Check.same("19: EAGER is not", 0, Check.told(lazyAlone).eager(1, 7));
        Check.same("19: LAZY alone", -2, Check.told(lazyAlone).alike(1));
        String text = "unit A{var v=B.w;}unit B{var w;}main{B.w=1;#}";
        Check.same("19: NEW behind LAZY", 1, Check.told(text.replace("#", "")).alike(1));
        Check.same("19: DONE behind LAZY", 0, Check.told(text.replace("#", "do A.v;")).alike(1));
        Check.same("19: BROKEN behind LAZY", 1, Check.told(text.replace("#", "do A.v;").replace("var v=B.w;", "var v=B.w;do fail;")).alike(1));
        Check.same("19: a UNIT without VARIABLES", 1, Check.told("unit A{fun f{give 1;}}main{do A.f();}").alike(0));
        // Of seven UNITS just one has another VARIABLE.
        for (char other = 'A'; other <= 'G'; other++) {
            StringBuilder s = new StringBuilder();
            StringBuilder all = new StringBuilder();
            for (char u = 'A'; u <= 'G'; u++) {
                s.append("unit ").append(u).append("{var a;var b=").append(u == other ? (u == 'A' ? "B.a" : "A.a") : "1").append(";}");
                all.append(u == other ? "" : "+" + u + ".b");
            }
            String main = "main{" + (other == 'A' ? "B" : "A") + ".a=5;do " + all.substring(1) + ";do " + other + ".b;}";
            Check.same("19: " + other + " alone has another", 0, Check.told(s + main).alike(123456));
        }
        // A is DONE within B by LAZY, but BROKEN by B if it is ahead: its VARIABLES alone count.
        String within = "unit A{var v=1;do B.w;#}unit B{var w;do A.v;do fail;}main{do B.w;}";
        Check.same("19: BROKEN by EAGER, yet as by LAZY", 1, Check.told(within.replace("#", "")).alike(1));
        Check.same("19: BROKEN by EAGER, and not so", 0, Check.told(within.replace("#", "var u=2;")).alike(1));
        Check.same("19: DONE by both", 1, Check.told(within.replace("#", "var u=2;")).alike(10));
        for (int order : new int[] {LOW, -1, 0, 2, 11, 100, HIGH}) {
            refused("19: ORDER " + order, Check.ILLEGAL, EdgeCallTest::full, y -> y.alike(order));
        }
    }

    /** Promises 20 to 25: another what, no such UNIT, no ORDER. */
    private static void promise20To25Edges() {
        whatUpTo("20: what", 2, full(), what -> y -> y.fewest(what));
        whatUpTo("20: what, no UNITS", 2, new BeginJudge(), what -> y -> y.fewest(what));
        indexBelow("21: UNIT", 2, full(), u -> y -> y.touches(u));
        indexBelow("22: UNIT", 2, full(), u -> y -> y.reach(u));
        indexBelow("23: UNIT", 2, full(), u -> y -> y.ring(u));
        whatUpTo("24: what", 1, full(), what -> y -> y.least(what));
        whatUpTo("24: what, no UNITS", 1, new BeginJudge(), what -> y -> y.least(what));
        for (int order : new int[] {LOW, -1, 0, 2, 11, 100, HIGH}) {
            refused("25: ORDER " + order, Check.ILLEGAL, EdgeCallTest::full, y -> y.breaks(order));
        }
        BeginJudge seven = Check.told("unit A{var v;}unit B{}unit C{}unit D{}unit E{}unit F{}unit G{do A.v;}");
        indexBelow("21: UNIT of seven", 7, seven, u -> y -> y.touches(u));
        indexBelow("22: UNIT of seven", 7, seven, u -> y -> y.reach(u));
        indexBelow("23: UNIT of seven", 7, seven, u -> y -> y.ring(u));
        Check.same("21: the last UNIT", 1, seven.touches(6));
        // An order with 0 ahead is the least: all but one that would break.
        Check.same("24: the least ORDER", 123456, seven.least(1));
        Check.same("25: G behind A", 0, seven.breaks(123456));
        Check.same("25: G ahead of A", 1, seven.breaks(6012345));
    }

    /** Promise 26: from 0 on; a long that wraps; UNITS without VARIABLES; negative numbers. */
    private static void promise26Print() {
        Check.same("26: none", 0, new BeginJudge().print());
        Check.same("26: NEW", 0, Check.told("unit A{}").print());
        Check.same("26: a UNIT without VARIABLES", 2, Check.told("unit A{fun f{give 1;}}main{do A.f();}").print());
        Check.same("26: below 0", 2 * 31 - 1, Check.told("unit A{var v=0-1;}main{do A.v;}").print());
        Check.same("26: the lowest", 2 * 31 + (long) Integer.MIN_VALUE, Check.told("unit A{var v=512*512*512*16;}main{do A.v;}").print());
        StringBuilder s = new StringBuilder();
        long due = 0;
        for (char u = 'A'; u <= 'G'; u++) {
            s.append("unit ").append(u).append("{var a=512*512*512*16-1;var b=").append(u - 'A').append(";}");
            due = (due * 31 + 2) * 31 + Integer.MAX_VALUE;
            due = due * 31 + u - 'A';
        }
        Check.same("26: a long that wraps", due, Check.told(s + "main{do A.a+B.a+C.a+D.a+E.a+F.a+G.a;}").print());
        BeginJudge x = Check.told("unit A{var a=5;var b=7;}main{do A.a;}");
        x.turn(0, 0);
        Check.same("26: one that is OFF is 0", (2 * 31) * 31 + 7, x.print());
    }

    /** Promise 27: "NONE for others". */
    private static void promise27Counted() {
        BeginJudge x = full();
        for (int what : new int[] {LOW, -2, -1, 2, 3, HIGH}) {
            Check.same("27: status " + what, -1, x.status(what));
        }
        Check.same("27: status itself refuses nothing", 0, x.status(0) + x.status(1));
        for (int i = 1; i <= 50; i++) {
            Check.answer(() -> x.unit(2, 0));
            Check.same("27: so many", i, x.status(0));
            Check.answer(() -> x.told(6));
            Check.same("27: so many", i, x.status(1));
        }
        Check.tell(x, "");
        x.undo();
        Check.same("27: they stay", 50, x.status(0));
        Check.same("27: they stay", 50, x.status(1));
        Check.same("27: of each object its own", 0, new BeginJudge().status(0));
    }

    /** Part 3: "Of several exceptions of one call the one told first is thrown". */
    private static void theFirstToldIsThrown() {
        for (int what : new int[] {LOW, -1, 5, 6, 8, HIGH}) {
            refused("3: unit", Check.NO_SUCH, EdgeCallTest::full, y -> y.unit(2, what));
            refused("3: member, no UNIT", Check.NO_SUCH, EdgeCallTest::full, y -> y.member(-1, 0, what));
            refused("3: member, no MEMBER", Check.NO_SUCH, EdgeCallTest::full, y -> y.member(0, 5, what));
            refused("3: surprise", Check.NO_SUCH, EdgeCallTest::full, y -> y.surprise(2, what));
            refused("3: surprise", Check.NO_SUCH, EdgeCallTest::full, y -> y.surprise(-1, what));
            refused("3: broken", Check.NO_SUCH, EdgeCallTest::full, y -> y.broken(2, what));
        }
    }

    /** Part 3: "a call that throws changes nothing but status()". */
    private static void whatThrowsChangesNothing() {
        Call[] calls = {y -> y.text(-1), y -> y.text(41), y -> y.move(2, 0, 0), y -> y.move(0, 5, 0), y -> y.move(0, 0, 5), y -> y.turn(0, 5), y -> y.turn(-1, 0),
            y -> y.told(6), y -> y.unit(2, 0), y -> y.unit(0, 5), y -> y.member(0, 5, 0), y -> y.member(0, 0, 5), y -> y.lazy(8), y -> y.eager(0, 0),
            y -> y.eager(1, 8), y -> y.value(0, 0), y -> y.value(2, 0), y -> y.state(2), y -> y.surprise(99, 0), y -> y.surprise(0, 6), y -> y.trace(99, 0),
            y -> y.broken(2, 0), y -> y.broken(0, 3), y -> y.alike(0), y -> y.fewest(3), y -> y.touches(2), y -> y.reach(2), y -> y.ring(2), y -> y.least(2),
            y -> y.breaks(0)};
        String due = fingerprint(changed());
        for (int i = 0; i < calls.length; i++) {
            Call call = calls[i];
            BeginJudge x = changed();
            Check.holds("3: call " + i + " throws", Check.answer(() -> call.on(x)).endsWith("Exception"));
            Check.same("3: call " + i + " is counted", 1, x.status(0) + x.status(1));
            Check.sameText("3: call " + i + " changes nothing", due, fingerprint(x));
            Check.same("3: call " + i + " leaves what can be taken back", 1, x.undo());
        }
    }

    /** UNITS told, changed, and 40 bytes on the TAPE behind a FAULT. */
    private static BeginJudge changed() {
        BeginJudge x = full();
        x.turn(1, 2);
        x.move(0, 0, 1);
        Check.tell(x, "unit ?");
        Check.feed(x, " ".repeat(40));
        return x;
    }

    /** Part 3: "Asked, nothing stays changed." */
    private static void askedNothingStaysChanged() {
        BeginJudge x = changed();
        String due = fingerprint(x);
        Check.sameText("3: asked twice", due, fingerprint(x));
        BeginJudge y = changed();
        y.fewest(0);
        y.eager(10, 0);
        y.alike(1);
        y.surprise(0, 0);
        y.least(1);
        Check.sameText("3: asked in another order", due, fingerprint(y));
        Check.same("3: the TAPE stays", 0, y.text(40));
    }

    /** All answers but those of status(), in some 200 calls. */
    private static String fingerprint(BeginJudge x) {
        StringBuilder s = new StringBuilder();
        int units = x.told(0);
        s.append(units).append(' ').append(x.told(1)).append(' ').append(x.told(2)).append(' ').append(x.told(3));
        for (int what = 0; what < 8; what++) {
            s.append(" l").append(x.lazy(what));
            s.append(" e").append(units == 2 ? x.eager(10, what) : 0);
        }
        for (int what = 0; what < 3; what++) {
            s.append(" f").append(x.fewest(what));
        }
        s.append(" b").append(x.least(0)).append(' ').append(x.least(1)).append(" p").append(x.print());
        for (int u = 0; u < units; u++) {
            s.append("\n").append(x.state(u)).append(' ').append(x.touches(u)).append(' ').append(x.reach(u)).append(' ').append(x.ring(u));
            for (int what = 0; what < 5; what++) {
                s.append(" u").append(x.unit(u, what));
                s.append(" b").append(what < 3 ? x.broken(u, what) : 0);
            }
            for (int i = 0; i < x.unit(u, 2); i++) {
                s.append(" m").append(x.member(u, i, 0)).append(x.member(u, i, 1)).append(x.member(u, i, 2)).append(x.member(u, i, 3)).append(x.member(u, i, 4));
            }
        }
        for (int k = 0; k < x.lazy(0); k++) {
            for (int what = 0; what < 6; what++) {
                s.append(" s").append(x.surprise(k, what)).append(' ').append(x.trace(k, what));
            }
        }
        return s.toString();
    }

    /** "An object is used for at most 512 calls after it has been made". */
    private static void fiveHundredAndTwelveCalls() {
        BeginJudge x = new BeginJudge();
        int calls = 0;
        for (int round = 0; calls + 30 <= 510; round++) {
            Check.feed(x, FULL);
            Check.same("512: told anew " + round, 2, x.text(FULL.length()));
            x.turn(0, round % 5);
            x.undo();
            Check.same("512: FEWEST " + round, full().fewest(0), x.fewest(0));
            Check.answer(() -> x.unit(2, 0));
            calls += (FULL.length() + 19) / 20 + 5;
        }
        while (calls < 510) {
            x.lazy(0);
            calls++;
        }
        Check.same("512: the 511th", full().print(), x.print());
        Check.same("512: the 512th", full().fewest(1), x.fewest(1));
    }
}
