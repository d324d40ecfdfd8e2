/** Each promise of the document by hand: ordinary inputs, the edges that it names, wrong inputs. */
public final class PromiseTest {
    // A begins, B within it: B sees A half made.
    private static final String HALF = "unit A{var x=B.y+1;var z=3;}unit B{var y=A.z+A.x;}main{do A.x;}";
    // C calls its own f, which touches B, above which A fails.
    private static final String FALL = "unit A{var x=fail;}unit B:A{var y=1;}unit C{fun f{give B.y;}do C.f()+A.x;}"
            + "main{do C.f();do A.x;do 5;A.x=2;}";
    private static final String WITHOUT_END = "unit A{fun f{give A.f()+1;}}main{do A.f();do 3;}";
    private static final String ALL_KINDS = "unit C{const k=7;var v;var w=(1+C.k)*2;do fail;C.v=C.w;fun f{C.v=1;C.w=2;give C.v+(3);}}"
            + "unit A:C{}";

    private PromiseTest() {
    }

    public static void main(String[] args) {
        promise1();
        promise2();
        promise3();
        promise3Faults();
        promise3FaultsTooMany();
        promise3FaultsNames();
        promise4();
        promise5();
        promise6();
        promise7();
        promise8();
        promise9();
        promise10();
        promise11();
        promise11Limits();
        promise12();
        promise13();
        promise14();
        promise15();
        promise16();
        promise17();
        promise18();
        promise19();
        promise20();
        promise21();
        promise22();
        promise23();
        promise24();
        promise25();
        promise26();
        promise27();
        fullest();
        Check.end();
    }

    private static void promise1() {
        BeginJudge x = new BeginJudge();
        Check.same("1: NONE", -1, BeginJudge.NONE);
        for (int what = 0; what < 6; what++) {
            Check.same("1: told", 0, x.told(what));
        }
        Check.same("1: eager by the empty ORDER", 0, x.eager(0, 3));
        Check.same("1: least ORDER", 0, x.least(1));
        Check.same("1: orders", 1, x.fewest(2));
        Check.same("1: print", 0, x.print());
    }

    private static void promise2() {
        BeginJudge x = new BeginJudge();
        for (int i = 1; i <= 30; i++) {
            Check.same("2: feed", 20 * i, x.feed(0x20202020, 0x20202020, 0x20202020, 0x20202020, 0x20202020));
        }
        Check.same("2: one too many", -1, x.feed(0, 0, 0, 0, 0));
        Check.same("2: nothing done", 600, x.told(4));
        Check.same("2: blanks alone", 0, x.text(600));
        Check.same("2: empty behind it", 0, x.told(4));
        // The highest byte comes first: "unit", " A{}".
        x.feed(0x756e6974, 0x20417b7d, 0, 0, 0);
        Check.same("2: the highest byte first", 1, x.text(8));
    }

    private static void promise3() {
        BeginJudge x = new BeginJudge();
        Check.same("3: text", 2, Check.tell(x, HALF));
        x.turn(0, 0);
        Check.same("3: the TAPE is empty", 0, x.told(4));
        Check.feed(x, "unit A{");
        Check.throwsIt("3: n below 0", Check.ILLEGAL, () -> x.text(-1));
        Check.throwsIt("3: n above the TAPE", Check.ILLEGAL, () -> x.text(21));
        Check.same("3: the TAPE stays", 20, x.told(4));
        Check.same("3: a FAULT", -9, x.text(7));
        Check.same("3: the TAPE is empty behind a FAULT", 0, x.told(4));
        Check.same("3: all stays behind a FAULT", 2, x.told(0));
        Check.same("3: what was turned too", 1, x.told(5));
        Check.same("3: and it is OFF", 0, x.member(0, 0, 1));
        Check.same("3: told anew", 1, Check.tell(x, "unit G{var a;}"));
        Check.same("3: nothing can be taken back", 0, x.told(5));
        Check.same("3: undo", -1, x.undo());
        Check.same("3: no STEPS now", 0, x.told(1));
        Check.same("3: ON at first", 1, x.member(0, 0, 1));
        Check.same("3: an empty text", 0, x.text(0));
        Check.same("3: no UNITS", 0, x.told(0));
        Check.isTold("3: words and letters side by side", "unitA{var x;doA.x;}main{do5;doA.x;}", 1);
        Check.isTold("3: blanks everywhere", " unit A { var x = ( 1 + 2 ) ; fun f { A . x = 3 ; give A . x ; } do A . f ( ) ; } main { } ", 1);
        Check.isTold("3: 999 and 0", "main{do 999*0*000;}", 0);
        Check.isTold("3: the longest text", "main{do 1;}" + " ".repeat(589), 0);
        Check.faultIs("3: as many signs as bytes", "{".repeat(600), 1, 0);
        BeginJudge y = Check.told(HALF);
        y.lazy(0);
        y.fewest(0);
        Check.tell(y, "unit A{var x=2;}unit B{}main{do A.x;}");
        Check.same("3: another RUN behind another text", 2, y.value(0, 'x' - 'a'));
        Check.same("3: and other ORDERS", 2, y.fewest(2));
        Check.tell(y, "unit A{var x=3;}");
        Check.same("3: the STEPS of old are gone", 0, y.value(0, 'x' - 'a'));
        for (int i = 0; i < 30; i++) {
            Check.tell(y, "main{" + "do 1+2+3+4+5+6+7+8;".repeat(10) + "}");
            Check.same("3: as often as wanted", 80, y.lazy(6));
        }
    }

    private static void promise3Faults() {
        Check.faultAt(1, "unit|");
        Check.faultAt(1, "unit A|");
        Check.faultAt(1, "unit A{  |");
        Check.faultAt(1, "unit |H{}");
        Check.faultAt(1, "unit |AB{}");
        Check.faultAt(1, "unit |Aa{}");
        Check.faultAt(1, "unit |AZ{}");
        Check.faultAt(1, "unit |Az{}");
        Check.faultAt(1, "unit |AB");
        Check.faultAt(1, "unit A{var |xz");
        Check.faultAt(1, "unit A|1{}");
        Check.faultAt(1, "|units A{}");
        Check.faultAt(1, "unit A:|{}");
        Check.faultAt(1, "unit A{}unit B:|AB{}");
        Check.faultAt(1, "unit A{|varx;}");
        Check.faultAt(1, "unit A{var |xy;}");
        Check.faultAt(1, "unit A{var |xA;}");
        Check.faultAt(1, "unit A{var |X;}");
        Check.faultAt(1, "unit A{var x=|;}");
        Check.faultAt(1, "unit A{var x|}");
        Check.faultAt(1, "unit A{const k|;}");
        Check.faultAt(1, "unit A{const k=|A.k;}");
        Check.faultAt(1, "unit A{const k=1|+1;}");
        Check.faultAt(1, "unit A{|give 1;}");
        Check.faultAt(1, "unit A{|main{}}");
        Check.faultAt(1, "unit A{fun f{|do 1;give 1;}}");
        Check.faultAt(1, "unit A{fun f{give 1|}}");
        Check.faultAt(1, "unit A{fun f{give 1;|give 2;}}");
        Check.faultAt(1, "unit A{fun f|(){give 1;}}");
        Check.faultAt(1, "main{do |Ax;}");
        Check.faultAt(1, "main{do A|;}");
        Check.faultAt(1, "main{do A.|B;}");
        Check.faultAt(1, "main{do A.x(|1);}");
        Check.faultAt(1, "main{do (1|;}");
        Check.faultAt(1, "main{do 1|);}");
        Check.faultAt(1, "main{do |-1;}");
        Check.faultAt(1, "main{do 1+|+1;}");
        Check.faultAt(1, "main{do 1|/1;}");
        Check.faultAt(1, "main{do |fails;}");
        Check.faultAt(1, "main{do fail|A.x;}");
        Check.faultAt(1, "main{A.x|;}");
        Check.faultAt(1, "main{|var x;}");
        Check.faultAt(1, "main{}|main{}");
        Check.faultAt(1, "main{}|unit A{}");
        Check.faultAt(1, "main{} |x");
        Check.faultAt(1, "unit A{}|\0");
        Check.faultAt(1, "|\u00e9");
        Check.faultAt(2, "main{do |1000;}");
        Check.faultAt(2, "main{do 1+|99999999999999999999;}");
        Check.faultAt(2, "unit A{const k=|4294967297;}");
    }

    private static void promise3FaultsTooMany() {
        String units = "unit A{}unit B{}unit C{}unit D{}unit E{}unit F{}unit G{}";
        Check.isTold("3: seven UNITS", units, 7);
        Check.faultAt(3, units + "|unit A{}");
        Check.faultAt(1, units + "|units A{}");
        String members = "do 1;".repeat(12);
        Check.isTold("3: twelve MEMBERS", "unit A{" + members + "}", 1);
        Check.faultAt(3, "unit A{" + members + "|do 1;}");
        Check.faultAt(3, "unit A{" + members + "|fun}");
        Check.faultAt(3, "unit A{" + members + "|A}");
        Check.faultAt(1, "unit A{" + members + "|AA}");
        Check.faultAt(1, "unit A{" + members + "|done;}");
        Check.faultAt(1, "unit A{" + members + "|;}");
        String steps = "do 1;".repeat(10);
        Check.isTold("3: ten STEPS", "main{" + steps + "}", 0);
        Check.faultAt(3, "main{" + steps + "|do 1;}");
        Check.faultAt(3, "main{" + steps + "|G}");
        Check.faultAt(1, "main{" + steps + "|var x;}");
        String sets = "A.x=1;".repeat(4);
        Check.isTold("3: four SETS", "unit A{var x;fun f{" + sets + "give 1;}}", 1);
        Check.faultAt(3, "unit A{var x;fun f{" + sets + "|A.x=1;give 1;}}");
        Check.faultAt(1, "unit A{var x;fun f{" + sets + "|H.x=1;give 1;}}");
        Check.isTold("3: eight TERMS", "main{do 1+2+3+4+5+6+7+8;}", 0);
        Check.isTold("3: eight TERMS in each SUM", "main{do 1+2+3+4+5+6+7+8;do 1+2+3+4+5+6+(7);}", 0);
        Check.faultAt(3, "main{do 1+2+3+4+5+6+7+8+|9;}");
        Check.faultAt(2, "main{do 1+2+3+4+5+6+7+8+|1000;}");
        Check.faultAt(3, "main{do 1+2+3+4+5+6+7+8+|fail;}");
        Check.faultAt(3, "main{do 1+2+3+4+5+6+7+8+|(1);}");
        Check.faultAt(3, "main{do 1+2+3+4+5+6+7+8+|A;}");
        Check.faultAt(1, "main{do 1+2+3+4+5+6+7+8+|H.x;}");
        Check.faultAt(3, "main{do 1+2+3+4+5+6+7+(|8);}");
        Check.isTold("3: seven times in ( )", "main{do (((((((1)))))));}", 0);
        Check.faultAt(3, "main{do ((((((((|1))))))));}");
        Check.faultAt(3, "main{do (1)+(2)+(3)+(4)+|(5);}");
    }

    private static void promise3FaultsNames() {
        Check.faultAt(4, "unit A{}unit |A{}");
        Check.faultAt(4, "unit A:|A{}");
        Check.faultAt(4, "unit A:|B{}unit B{}");
        Check.faultAt(4, "unit A{var x;fun |x{give 1;}}");
        Check.faultAt(4, "unit A{const x=1;var |x;}");
        Check.isTold("3: one name in two UNITS", "unit A{var x;}unit B{var x;}", 2);
        Check.faultAt(4, "unit A{do B.x;}unit |A{}");
        Check.faultAt(1, "unit A{do B.x;}unit C{|");
        Check.faultAt(5, "unit A{do |B.x;}");
        Check.faultAt(5, "unit A{do |A.x;}");
        Check.faultAt(5, "unit A{const k=1;|A.k=2;}");
        Check.faultAt(5, "unit A{fun f{give 1;}|A.f=2;}");
        Check.faultAt(5, "unit A{fun f{give 1;}do |A.f;}");
        Check.faultAt(5, "unit A{var v;do |A.v();}");
        Check.faultAt(5, "unit A{const k=1;do |A.k();}");
        Check.faultAt(5, "unit A{|A.y=B.z;}unit B{}");
        Check.faultAt(5, "unit A{var y;A.y=|B.z;}unit B{}main{C.x=1;}");
        Check.faultAt(5, "unit A{fun f{|A.q=1;give A.r;}}");
        Check.faultAt(5, "unit A{}main{do 1+(2*|A.f());}");
        Check.isTold("3: told behind", "unit A{do B.x+B.f();}unit B{var x;fun f{give 1;}}", 2);
    }

    private static void promise4() {
        BeginJudge x = new BeginJudge();
        Check.same("4: ahead of any", -1, x.fault());
        Check.tell(x, "unit A{var x}");
        Check.same("4: the place", 12, x.fault());
        Check.throwsIt("4: a text() that throws", Check.ILLEGAL, () -> x.text(1));
        Check.same("4: the place stays", 12, x.fault());
        Check.tell(x, "unit A{}");
        Check.same("4: without one", -1, x.fault());
    }

    private static void promise5() {
        BeginJudge x = Check.told("unit A{var a;var b;var c;var d;}unit B{}");
        Check.same("5: it is there", 0, x.move(0, 1, 1));
        Check.same("5: nothing is done", 0, x.told(5));
        Check.same("5: move on", 1, x.move(0, 0, 2));
        names(x, "bcad");
        Check.same("5: move back", 1, x.move(0, 3, 0));
        names(x, "dbca");
        Check.throwsIt("5: no UNIT", Check.NO_SUCH, () -> x.move(2, 0, 0));
        Check.throwsIt("5: no UNIT", Check.NO_SUCH, () -> x.move(-1, 0, 0));
        Check.throwsIt("5: no MEMBER", Check.NO_SUCH, () -> x.move(0, 4, 0));
        Check.throwsIt("5: no place", Check.NO_SUCH, () -> x.move(0, 0, 4));
        Check.throwsIt("5: below 0", Check.NO_SUCH, () -> x.move(0, 0, -1));
        Check.throwsIt("5: no MEMBERS at all", Check.NO_SUCH, () -> x.move(1, 0, 0));
        names(x, "dbca");
        BeginJudge y = Check.told(HALF);
        y.move(0, 0, 1);
        Check.same("5: another order is another RUN", 1, y.lazy(0));
        Check.same("5: value", 4, y.value(0, 'x' - 'a'));
    }

    private static void names(BeginJudge x, String due) {
        for (int i = 0; i < due.length(); i++) {
            Check.same("5: " + due, due.charAt(i) - 'a', x.member(0, i, 2));
        }
    }

    private static void promise6() {
        BeginJudge x = Check.told("unit A{var a=1;var b=A.a+1;fun f{give 5;}const k=2;}main{do A.a+A.b+A.f()+A.k;}");
        Check.same("6: OFF", 0, x.turn(0, 0));
        Check.same("6: member", 0, x.member(0, 0, 1));
        Check.same("6: its VARIABLE is 0", 0, x.value(0, 0));
        Check.same("6: it is never MADE", 1, x.lazy(0));
        Check.same("6: read by another", 1, x.value(0, 1));
        Check.same("6: ON", 1, x.turn(0, 0));
        Check.same("6: value", 1, x.value(0, 0));
        Check.same("6: a FUNCTION", 0, x.turn(0, 2));
        Check.same("6: a CONSTANT", 0, x.turn(0, 3));
        Check.same("6: both are there all the same", 0, x.lazy(2));
        Check.same("6: and worked out", 9, x.lazy(6));
        Check.throwsIt("6: no MEMBER", Check.NO_SUCH, () -> x.turn(0, 4));
        Check.throwsIt("6: no UNIT", Check.NO_SUCH, () -> x.turn(1, 0));
        Check.throwsIt("6: below 0", Check.NO_SUCH, () -> x.turn(0, -1));
    }

    private static void promise7() {
        BeginJudge x = Check.told("unit A{var a;var b;var c;var d;}");
        Check.same("7: none", -1, x.undo());
        x.move(0, 0, 3);
        x.turn(0, 0);
        x.move(0, 2, 2);
        Check.same("7: undo of turn", 1, x.undo());
        Check.same("7: ON again", 4, x.told(3));
        Check.same("7: undo of move", 0, x.undo());
        names(x, "abcd");
        Check.same("7: none more", -1, x.undo());
        for (int i = 0; i < 20; i++) {
            x.move(0, 0, 3);
        }
        Check.same("7: sixteen at most", 16, x.told(5));
        for (int i = 15; i >= 0; i--) {
            Check.same("7: how many still can", i, x.undo());
        }
        Check.same("7: no more than sixteen", -1, x.undo());
        x.turn(0, 1);
        Check.tell(x, "unit");
        Check.same("7: a FAULT leaves them", 0, x.undo());
        x.turn(0, 1);
        Check.throwsIt("7: what throws is none to be taken back", Check.NO_SUCH, () -> x.turn(0, 9));
        Check.same("7: the turn ahead of it", 0, x.undo());
    }

    private static void promise8() {
        BeginJudge x = Check.told(ALL_KINDS + "main{do 1;do 2;}");
        x.turn(0, 1);
        Check.feed(x, "a");
        int[] due = {2, 2, 6, 5, 20, 1};
        for (int what = 0; what < 6; what++) {
            Check.same("8: told " + what, due[what], x.told(what));
        }
        Check.throwsIt("8: another what", Check.ILLEGAL, () -> x.told(6));
        Check.throwsIt("8: another what", Check.ILLEGAL, () -> x.told(-1));
    }

    private static void promise9() {
        BeginJudge x = Check.told(ALL_KINDS);
        int[][] due = {{2, -1, 6, 2, 1}, {0, 0, 0, 0, 0}};
        for (int u = 0; u < 2; u++) {
            for (int what = 0; what < 5; what++) {
                Check.same("9: unit " + u + "," + what, due[u][what], x.unit(u, what));
            }
        }
        Check.throwsIt("9: no UNIT", Check.NO_SUCH, () -> x.unit(2, 0));
        Check.throwsIt("9: no UNIT is told first", Check.NO_SUCH, () -> x.unit(-1, 9));
        Check.throwsIt("9: another what", Check.ILLEGAL, () -> x.unit(0, 5));
        Check.throwsIt("9: another what", Check.ILLEGAL, () -> x.unit(0, -1));
    }

    private static void promise10() {
        BeginJudge x = Check.told(ALL_KINDS);
        int[][] due = {
            {0, 1, 'k' - 'a', 0, 7}, {1, 1, 'v' - 'a', 0, -1}, {1, 1, 'w' - 'a', 3, -1},
            {2, 1, -1, 1, -1}, {3, 1, 'v' - 'a', 1, 0}, {4, 1, 'f' - 'a', 2, 2}};
        for (int i = 0; i < due.length; i++) {
            for (int what = 0; what < 5; what++) {
                Check.same("10: member " + i + "," + what, due[i][what], x.member(0, i, what));
            }
        }
        BeginJudge y = Check.told("unit G{B.q=1;}unit B{var q;}");
        Check.same("10: of SET the UNIT by its number", 1, y.member(0, 0, 4));
        Check.throwsIt("10: no UNIT", Check.NO_SUCH, () -> x.member(2, 0, 0));
        Check.throwsIt("10: no MEMBER", Check.NO_SUCH, () -> x.member(0, 6, 9));
        Check.throwsIt("10: below 0", Check.NO_SUCH, () -> x.member(0, -1, 0));
        Check.throwsIt("10: another what", Check.ILLEGAL, () -> x.member(0, 0, 5));
    }

    private static void lazyIs(String text, int... due) {
        BeginJudge x = Check.told(text);
        for (int what = 0; what < due.length; what++) {
            Check.same("11: lazy " + what + " of " + text, due[what], x.lazy(what));
        }
    }

    private static void promise11() {
        lazyIs(HALF, 2, 0, 0, 2, 2, 0, 8, 0);
        lazyIs(FALL, 0, 0, 3, 3, 0, 3, 10, 0);
        lazyIs("unit A{const k=7;B.v=4;var w=A.k*2-1;}unit B{var v=A.w+1;}main{do B.v;}", 0, 1, 0, 2, 2, 0, 10, 0);
        // To read a CONSTANT touches nothing.
        lazyIs("unit A{const k=7;do fail;}main{do A.k;}", 0, 0, 0, 0, 0, 0, 1, 0);
        // A VARIABLE without a SUM is no SURPRISE, and is not LOST.
        lazyIs("unit A{do A.v;A.v=1;var v;}main{do A.v;}", 0, 0, 0, 1, 1, 0, 5, 0);
        // One that is OFF is not MADE, but its UNIT is DONE: no SURPRISE any more.
        BeginJudge x = Check.told("unit A{var v=1;do A.v;A.v=2;}main{do A.v;A.v=3;}");
        x.turn(0, 0);
        Check.same("11: OFF, read as its UNIT is BEGUN", 1, x.lazy(0));
        Check.same("11: OFF, SET as its UNIT is BEGUN", 1, x.lazy(1));
        Check.same("11: OFF, it is as it was SET", 3, x.value(0, 'v' - 'a'));
        // What was done ahead of a FAILURE stays; the UNIT of a SET is TOUCHED behind its SUM.
        lazyIs("unit A{var v;A.v=5;do fail;}unit B{var x;do 1;}main{do B.x+A.v;do 1;}",
                0, 0, 1, 2, 1, 1, 9, 0);
        lazyIs("unit A{var v;do fail;}main{A.v=1+2;}", 0, 0, 1, 1, 0, 1, 4, 0);
        lazyIs("unit A{var v;}main{A.v=fail;}", 0, 0, 1, 0, 0, 0, 1, 0);
        // The one ABOVE begins behind its own UNIT, ahead of the MEMBERS.
        lazyIs("unit A{do B.x;}unit B:A{var x=1;}main{do B.x;}", 1, 0, 0, 2, 2, 0, 5, 0);
        BeginJudge y = Check.told(HALF);
        Check.throwsIt("11: another what", Check.ILLEGAL, () -> y.lazy(8));
        Check.throwsIt("11: another what", Check.ILLEGAL, () -> y.lazy(-1));
        BeginJudge z = Check.told("unit A{var x=999*999*999*999;var y=2+3*4-(1-2);}main{do A.x;}");
        Check.same("11: numbers wrap", 999 * 999 * 999 * 999, z.value(0, 'x' - 'a'));
        Check.same("11: from the left on", 21, z.value(0, 'y' - 'a'));
    }

    /** FUNCTIONS a, b, c, each some eight times as dear as the one ahead of it. */
    private static String dear(String steps) {
        return "unit A{fun a{give 1+1+1+1+1+1+1+1;}fun b{give " + "A.a()+".repeat(7) + "A.a();}fun c{give "
                + "A.b()+".repeat(7) + "A.b();}var v;}" + "unit B{do 1;}main{" + steps + "}";
    }

    private static void promise11Limits() {
        lazyIs(WITHOUT_END, 0, 0, 0, 1, 1, 0, 22, 1);
        // A call of a takes 9, of b 73, of c 585; the UNIT 1: 5 calls of c, 1 of b are 2999.
        String five = "do A.c();".repeat(5) + "do A.b();";
        lazyIs(dear(five), 0, 0, 0, 1, 1, 0, 2999, 0);
        lazyIs(dear(five + "do 1;"), 0, 0, 0, 1, 1, 0, 3000, 0);
        lazyIs(dear(five + "do 1;do 1;"), 0, 0, 0, 1, 1, 0, 3000, 1);
        // The SUM is worked out, but to SET would be too much.
        lazyIs(dear(five + "A.v=7;"), 0, 0, 0, 1, 1, 0, 3000, 1);
        BeginJudge x = Check.told(dear(five + "A.v=7;"));
        Check.same("11: what is TOO MUCH is not done", 0, x.value(0, 'v' - 'a'));
        // To begin B would be too much.
        BeginJudge y = Check.told(dear(five + "do B.x;").replace("unit B{", "unit B{var x;"));
        Check.same("11: TOO MUCH", 1, y.lazy(7));
        Check.same("11: no UNIT is BEGUN by it", 0, y.state(1));
        Check.same("11: its STEP has not FAILED", 0, y.lazy(2));
        // What is BEGUN stays so.
        BeginJudge z = Check.told("unit A{do A.f();fun f{give A.f();}}unit B:A{var x;}main{do B.x;do fail;}");
        Check.same("11: BEGUN stays", 1, z.state(0));
        Check.same("11: BEGUN stays", 1, z.state(1));
        Check.same("11: nothing more is done", 0, z.lazy(2));
        Check.same("11: neither DONE nor BROKEN", 0, z.lazy(4) + z.lazy(5));
        // Two static parts and 18 of f are OPEN, each but the first TOUCH a TERM: 1 + 2 + 1 + 18.
        Check.same("11: WORK by then", 22, z.lazy(6));
        // Twenty OPEN are not too many: a FAILURE in the twentieth.
        StringBuilder tower = new StringBuilder("unit A{");
        for (char c = 'a'; c < 'j'; c++) {
            tower.append("fun ").append(c).append("{give A.").append((char) (c + 1)).append("();}");
        }
        String low = tower + "fun j{give B.a();}}";
        StringBuilder more = new StringBuilder("unit B{");
        for (char c = 'a'; c < 'j'; c++) {
            more.append("fun ").append(c).append("{give B.").append((char) (c + 1)).append("();}");
        }
        lazyIs(low + more + "fun j{give 5;}}main{do A.a();}", 0, 0, 0, 2, 2, 0, 23, 0);
        lazyIs(low + more + "fun j{give C.x+1;}}unit C{var x;}main{do A.a();}", 0, 0, 0, 2, 2, 0, 23, 1);
        // B is BEGUN by the last WORK, so its VARIABLE is not MADE, and it is not DONE.
        BeginJudge last = Check.told(dear("do A.c();".repeat(5) + "do " + "A.a()+".repeat(7) + "A.a();do B.x;")
                .replace("unit B{", "unit B{var x=5;"));
        Check.same("11: WORK of just 3,000", 3000, last.lazy(6));
        Check.same("11: TOO MUCH", 1, last.lazy(7));
        Check.same("11: BEGUN, not DONE", 1, last.state(1));
        Check.same("11: not MADE", 0, last.value(1, 'x' - 'a'));
    }

    private static void promise12() {
        BeginJudge x = Check.told(HALF);
        int[] due = {1, 0, 0, 2, 2, 0, 8, 0};
        for (int what = 0; what < 8; what++) {
            Check.same("12: eager 10," + what, due[what], x.eager(10, what));
        }
        Check.same("12: 0 ahead left out", 2, x.eager(1, 0));
        for (int order : new int[] {0, 11, 2, 20, 100, 101, 12, -1, -10, Integer.MAX_VALUE, Integer.MIN_VALUE}) {
            Check.throwsIt("12: no ORDER " + order, Check.ILLEGAL, () -> x.eager(order, 0));
        }
        Check.throwsIt("12: another what", Check.ILLEGAL, () -> x.eager(10, 8));
        Check.throwsIt("12: another what", Check.ILLEGAL, () -> x.eager(10, -1));
        BeginJudge y = Check.told(FALL);
        Check.same("12: a FAILURE ahead is no STEP's", 3, y.eager(12, 2));
        Check.same("12: BROKEN", 3, y.eager(12, 5));
        BeginJudge z = Check.told("unit A{do fail;}unit B{var x;}main{do B.x;}");
        Check.same("12: it is over there", 2, z.eager(1, 3));
        Check.same("12: no STEP FAILED", 0, z.eager(1, 2));
        BeginJudge t = Check.told("unit A{do A.f();fun f{give A.f();}}unit B{var x;}main{do fail;}");
        Check.same("12: TOO MUCH ends all", 1, t.eager(1, 3));
        Check.same("12: MAIN too", 0, t.eager(1, 2));
        Check.same("12: TOO MUCH", 1, t.eager(10, 7));
        BeginJudge seven = Check.told("unit A{}unit B{}unit C{}unit D{}unit E{}unit F{}unit G{}");
        Check.same("12: seven", 7, seven.eager(6543210, 4));
        Check.same("12: seven", 7, seven.eager(123456, 4));
        Check.throwsIt("12: eight digits", Check.ILLEGAL, () -> seven.eager(10123456, 4));
        Check.throwsIt("12: a digit too high", Check.ILLEGAL, () -> seven.eager(6543217, 4));
    }

    private static void promise13() {
        BeginJudge x = Check.told("unit A{const k=1;var v=4;var u;fun f{give 1;}}main{do A.v;A.u=0-7;}");
        Check.same("13: value", 4, x.value(0, 'v' - 'a'));
        Check.same("13: value", -7, x.value(0, 'u' - 'a'));
        Check.throwsIt("13: a CONSTANT", Check.NO_SUCH, () -> x.value(0, 'k' - 'a'));
        Check.throwsIt("13: a FUNCTION", Check.NO_SUCH, () -> x.value(0, 'f' - 'a'));
        Check.throwsIt("13: no such name", Check.NO_SUCH, () -> x.value(0, 0));
        Check.throwsIt("13: no name", Check.NO_SUCH, () -> x.value(0, 26));
        Check.throwsIt("13: no name", Check.NO_SUCH, () -> x.value(0, -1));
        Check.throwsIt("13: no UNIT", Check.NO_SUCH, () -> x.value(1, 'v' - 'a'));
        Check.throwsIt("13: no UNIT", Check.NO_SUCH, () -> x.value(-1, 'v' - 'a'));
        Check.throwsIt("13: no UNIT", Check.NO_SUCH, () -> x.value(7, 'v' - 'a'));
    }

    private static void promise14() {
        BeginJudge x = Check.told("unit A{var x;}unit B{do fail;var x;}unit C{var x;}unit D{do D.f();fun f{give D.f();}}"
                + "main{do A.x;do B.x;do D.f();}");
        int[] due = {2, 3, 0, 1};
        for (int u = 0; u < 4; u++) {
            Check.same("14: state " + u, due[u], x.state(u));
        }
        Check.throwsIt("14: no UNIT", Check.NO_SUCH, () -> x.state(4));
        Check.throwsIt("14: no UNIT", Check.NO_SUCH, () -> x.state(-1));
    }

    private static void promise15() {
        BeginJudge x = Check.told(FALL);
        int[] due = {-1, 2, 1, 0, -1};
        for (int k = -1; k < 4; k++) {
            Check.same("15: begun " + k, due[k + 1], x.begun(k));
        }
        Check.same("15: far above", -1, x.begun(Integer.MAX_VALUE));
        Check.same("15: far below", -1, x.begun(Integer.MIN_VALUE));
    }

    // The second STEP begins A; f reads v, which is SET too early, w, which is not yet made.
    private static final String SEEN = "unit B{var q;}unit A{A.v=9;do A.f();var v=1;var w=2;fun f{give A.v+A.w*A.v;}}"
            + "main{do B.q;do A.v;do A.v;}";

    private static void promise16() {
        BeginJudge x = Check.told(SEEN);
        int[][] due = {{1, 'v' - 'a', 9, 8, 2, 1}, {1, 'w' - 'a', 0, 9, 2, 1}, {1, 'v' - 'a', 9, 10, 2, 1}};
        for (int k = 2; k >= 0; k--) {
            for (int what = 0; what < 6; what++) {
                Check.same("16: surprise " + k + "," + what, due[k][what], x.surprise(k, what));
            }
        }
        Check.throwsIt("16: no SURPRISE", Check.NO_SUCH, () -> x.surprise(3, 9));
        Check.throwsIt("16: no SURPRISE", Check.NO_SUCH, () -> x.surprise(-1, 0));
        Check.throwsIt("16: another what", Check.ILLEGAL, () -> x.surprise(0, 6));
        Check.throwsIt("16: another what", Check.ILLEGAL, () -> x.surprise(0, -1));
        x.turn(1, 1);
        Check.throwsIt("16: none any more", Check.NO_SUCH, () -> x.surprise(0, 0));
        x.undo();
        Check.same("16: there again", 8, x.surprise(0, 3));
        x.move(1, 3, 0);
        Check.same("16: moved ahead", 2, x.lazy(0));
        Check.same("16: the second is now another", 'v' - 'a', x.surprise(1, 1));
    }

    private static void promise17() {
        BeginJudge x = Check.told(SEEN);
        Check.same("17: the outermost first", 199, x.trace(0, 0));
        Check.same("17: a FUNCTION", 100 + 'f' - 'a', x.trace(0, 1));
        Check.same("17: not so many", -1, x.trace(0, 2));
        Check.same("17: below 0", -1, x.trace(0, -1));
        Check.throwsIt("17: no SURPRISE", Check.NO_SUCH, () -> x.trace(3, 0));
        Check.throwsIt("17: no SURPRISE", Check.NO_SUCH, () -> x.trace(-1, 0));
        BeginJudge y = Check.told("unit A{var z=1;}unit B{var y=C.g();var x=1;}unit C:A{fun g{give B.x;}}main{do B.y;}");
        int[] due = {199, 206, -1};
        for (int i = 0; i < 3; i++) {
            Check.same("17: DONE ones are OPEN no more, " + i, due[i], y.trace(0, i));
        }
    }

    private static void promise18() {
        BeginJudge x = Check.told(FALL);
        int[][] due = {{1, -1, 0}, {1, -1, 1}, {1, -1, 2}};
        for (int u = 0; u < 3; u++) {
            for (int what = 0; what < 3; what++) {
                Check.same("18: broken " + u + "," + what, due[u][what], x.broken(u, what));
            }
        }
        BeginJudge y = Check.told("unit A{var x=fail;}unit B{var y=A.x;}unit C{var z=B.y;}unit D{var w;}main{do A.x;do C.z;do D.w;do C.z;}");
        int[][] chain = {{1, -1, 0}, {2, 0, 0}, {2, 0, 1}, {-1, -1, -1}};
        for (int u = 0; u < 4; u++) {
            for (int what = 0; what < 3; what++) {
                Check.same("18: a BROKEN one TOUCHED " + u + "," + what, chain[u][what], y.broken(u, what));
            }
        }
        Check.throwsIt("18: no UNIT", Check.NO_SUCH, () -> x.broken(3, 9));
        Check.throwsIt("18: another what", Check.ILLEGAL, () -> x.broken(0, 3));
        Check.throwsIt("18: another what", Check.ILLEGAL, () -> x.broken(0, -1));
    }

    private static void promise19() {
        BeginJudge x = Check.told(HALF);
        Check.same("19: alike", 1, x.alike(1));
        Check.same("19: not alike", 0, x.alike(10));
        Check.throwsIt("19: no ORDER", Check.ILLEGAL, () -> x.alike(0));
        Check.same("19: TOO MUCH", -2, Check.told(WITHOUT_END).alike(0));
        // EAGER alone is TOO MUCH, as LAZY touches nothing.
        Check.same("19: one of both", -2, Check.told("unit A{do A.f();fun f{give A.f();}}").alike(0));
        // What is not DONE behind LAZY does not count.
        Check.same("19: NEW by LAZY", 1, Check.told("unit A{var x=5;}").alike(0));
        Check.same("19: BROKEN by LAZY", 1, Check.told("unit A{var x=B.q;do fail;}unit B{var q;}main{B.q=1;do A.x;}").alike(1));
        Check.same("19: DONE by LAZY", 0, Check.told("unit A{var x=B.q;}unit B{var q;}main{B.q=1;do A.x;}").alike(1));
    }

    private static void promise20() {
        BeginJudge x = Check.told(HALF);
        Check.same("20: FEWEST", 1, x.fewest(0));
        Check.same("20: the least ORDER", 10, x.fewest(1));
        Check.same("20: how many", 1, x.fewest(2));
        x.move(0, 0, 1);
        Check.same("20: anew behind a move", 1, x.fewest(0));
        Check.same("20: both ORDERS", 2, x.fewest(2));
        x.turn(1, 0);
        Check.same("20: anew behind a turn", 0, x.fewest(0));
        Check.same("20: the least", 1, x.fewest(1));
        x.undo();
        x.undo();
        Check.same("20: as it was", 10, x.fewest(1));
        Check.throwsIt("20: another what", Check.ILLEGAL, () -> x.fewest(3));
        Check.throwsIt("20: another what", Check.ILLEGAL, () -> x.fewest(-1));
        BeginJudge y = Check.told("unit A{var x=1;do A.f();fun f{give A.f();}}unit B{}");
        Check.same("20: TOO MUCH", 1000000, y.fewest(0));
        Check.same("20: the least of all", 1, y.fewest(1));
        Check.same("20: all", 2, y.fewest(2));
        BeginJudge z = Check.told("unit A{}unit B{}unit C{}unit D{}unit E{}unit F{}unit G{}");
        Check.same("20: none", 0, z.fewest(0));
        Check.same("20: 0 ahead", 123456, z.fewest(1));
        Check.same("20: of seven", 5040, z.fewest(2));
        // MAIN alone may be TOO MUCH, whatever comes ahead of it.
        Check.same("20: MAIN counts", 1000000, Check.told(WITHOUT_END).fewest(0));
        // A is dear, and so is MAIN: no ORDER has room for both.
        String dear = dear("do A.c();".repeat(3)).replace("unit B{do 1;}", "unit B{do A.c()+A.c()+A.c();}");
        Check.same("20: what is ahead counts as WORK", 1000000, Check.told(dear).fewest(0));
        // A begun takes 1, B 2, five calls of c 2925, eight of a 72.
        String just = dear("do A.c();".repeat(5) + "do " + "A.a()+".repeat(7) + "A.a();");
        Check.same("20: WORK of just 3,000", 3000, Check.told(just).eager(1, 6));
        Check.same("20: is not TOO MUCH", 0, Check.told(just).fewest(0));
        String over = just.replace("unit B{do 1;}", "unit B{do 1+1;}");
        Check.same("20: one more is", 1000000, Check.told(over).fewest(0));
        // G begins once, whoever TOUCHES it first, and sees itself half made then.
        String empty = "unit A{}unit B{}unit C{}unit D{}unit E{}";
        BeginJudge last = Check.told(empty + "unit F{do G.y;}unit G{do G.y;var y=1;}");
        Check.same("20: the last UNIT begins once", 1, last.fewest(0));
        Check.same("20: in any ORDER", 5040, last.fewest(2));
        BeginJudge half = Check.told(empty + "unit F{var x=G.y+1;var z=3;}unit G{var y=F.z+F.x;}");
        Check.same("20: G ahead of F", 1, half.fewest(0));
        Check.same("20: the least of these", 123465, half.fewest(1));
        Check.same("20: half of all", 2520, half.fewest(2));
    }

    private static void promise21() {
        BeginJudge x = Check.told("unit A{var v;const k=1;fun f{B.w=1;give C.g();}do A.f();}unit B{var w;do A.k;}"
                + "unit C{fun g{give A.f()+D.x;}}unit D:B{var x=D.y;var y;D.y=A.v;}");
        Check.same("21: by FUNCTIONS and on", 15, x.touches(0));
        Check.same("21: a CONSTANT is no touch", 0, x.touches(1));
        Check.same("21: a FUNCTION by itself is none", 0, x.touches(2));
        Check.same("21: ABOVE, SUM, SET", 1 + 2 + 8, x.touches(3));
        x.turn(0, 2);
        x.turn(2, 0);
        Check.same("21: FUNCTIONS that are OFF too", 15, x.touches(0));
        x.turn(0, 3);
        Check.same("21: no MEMBER that is OFF", 0, x.touches(0));
        x.turn(3, 2);
        Check.same("21: no SET that is OFF", 2 + 8, x.touches(3));
        Check.throwsIt("21: no UNIT", Check.NO_SUCH, () -> x.touches(4));
        Check.throwsIt("21: no UNIT", Check.NO_SUCH, () -> x.touches(-1));
    }

    // A to B, B to C, C to B and D; E to itself.
    private static final String NET = "unit A{var x=B.x;}unit B{var x=C.x;}unit C{var x=B.x+D.x;}unit D{var x;}unit E{var x=E.x;}";

    private static void promise22() {
        BeginJudge x = Check.told(NET);
        int[] due = {14, 14, 14, 0, 16};
        for (int u = 0; u < 5; u++) {
            Check.same("22: reach " + u, due[u], x.reach(u));
        }
        Check.throwsIt("22: no UNIT", Check.NO_SUCH, () -> x.reach(5));
        Check.throwsIt("22: no UNIT", Check.NO_SUCH, () -> x.reach(-1));
        // A way that goes down and up again through all of them.
        BeginJudge y = Check.told("unit A{var x=C.x;}unit B{var x=D.x;}unit C{var x=B.x;}unit D{var x=E.x;}unit E{var x;}");
        Check.same("22: a long way", 30, y.reach(0));
    }

    private static void promise23() {
        BeginJudge x = Check.told(NET);
        int[] due = {0, 6, 6, 0, 16};
        for (int u = 0; u < 5; u++) {
            Check.same("23: ring " + u, due[u], x.ring(u));
        }
        Check.throwsIt("23: no UNIT", Check.NO_SUCH, () -> x.ring(5));
        Check.throwsIt("23: no UNIT", Check.NO_SUCH, () -> x.ring(-1));
    }

    private static void promise24() {
        BeginJudge x = Check.told(NET);
        Check.same("24: the ring breaks one", 1, x.least(0));
        // D ahead of C ahead of B ahead of A; or B ahead of A, D ahead of C, C behind B: 1 0 3 2 4.
        Check.same("24: the least ORDER", 10324, x.least(1));
        Check.same("24: it BREAKS so few", 1, x.breaks(x.least(1)));
        x.turn(2, 0);
        Check.same("24: without the ring", 0, x.least(0));
        Check.throwsIt("24: another what", Check.ILLEGAL, () -> x.least(2));
        Check.throwsIt("24: another what", Check.ILLEGAL, () -> x.least(-1));
        BeginJudge y = Check.told("unit A{}unit B{}");
        Check.same("24: the least of all", 1, y.least(1));
    }

    /** All that there can be: 7 UNITS with 12 MEMBERS, 600 bytes, all UNITS in one ring. */
    private static void fullest() {
        StringBuilder s = new StringBuilder();
        for (char u = 'A'; u <= 'G'; u++) {
            s.append("unit ").append(u).append("{var x=").append(u == 'G' ? 'A' : (char) (u + 1)).append(".x;");
            s.append("do 1;".repeat(11)).append("}");
        }
        s.append("main{do G.x;}");
        BeginJudge x = Check.told(s.append(" ".repeat(600 - s.length())).toString());
        Check.same("all: MEMBERS", 84, x.told(2));
        Check.same("all: ON", 84, x.told(3));
        for (int u = 0; u < 7; u++) {
            Check.same("all: MEMBERS of a UNIT", 12, x.unit(u, 2));
            Check.same("all: VARIABLES", 1, x.unit(u, 3));
            Check.same("all: DONE", 2, x.state(u));
            Check.same("all: touches", 1 << (u + 1) % 7, x.touches(u));
            Check.same("all: reach", 127, x.reach(u));
            Check.same("all: ring", 127, x.ring(u));
            Check.same("all: begun", (u + 6) % 7, x.begun(u));
            Check.same("all: move", 1, x.move(u, 0, 11));
            Check.same("all: move", 1, x.move(u, 11, 0));
            Check.same("all: trace", (u + 6) % 7 * 100 + 99, x.trace(0, u));
        }
        Check.same("all: WORK", 1 + 7 * 13, x.lazy(6));
        Check.same("all: FEWEST", 1, x.fewest(0));
        Check.same("all: ORDERS", 5040, x.fewest(2));
        Check.same("all: alike", 1, x.alike(6543210));
        Check.same("all: least", 1, x.least(0));
        Check.same("all: breaks", 6, x.breaks(123456));
        Check.same("all: breaks", 1, x.breaks(6543210));
        BeginJudge y = Check.told("unit A{var x;do B.x+C.x+D.x+E.x+F.x+G.x;}unit B{var x;do A.x+C.x+D.x+E.x+F.x+G.x;}"
                + "unit C{var x;do A.x+B.x+D.x+E.x+F.x+G.x;}unit D{var x;do A.x+B.x+C.x+E.x+F.x+G.x;}unit E{var x;do A.x+B.x+C.x+D.x+F.x+G.x;}"
                + "unit F{var x;do A.x+B.x+C.x+D.x+E.x+G.x;}unit G{var x;do A.x+B.x+C.x+D.x+E.x+F.x;}");
        Check.same("all: the least ORDER, asked first", 123456, y.least(1));
        Check.same("all: each couple is broken one way", 21, y.least(0));
    }

    private static void promise25() {
        BeginJudge x = Check.told(NET);
        Check.same("25: all behind", 3, x.breaks(1234));
        Check.same("25: all ahead but the ring", 1, x.breaks(43210));
        Check.same("25: E alone breaks none", 1, x.breaks(32104));
        Check.throwsIt("25: no ORDER", Check.ILLEGAL, () -> x.breaks(43211));
        Check.throwsIt("25: no ORDER", Check.ILLEGAL, () -> x.breaks(-43210));
    }

    private static void promise26() {
        Check.same("26: print", 1879778, Check.told(HALF).print());
        BeginJudge x = Check.told("unit A{const k=5;var a=0-1;do 1;var b=7;}unit B{var c=9;}main{do A.a;}");
        Check.same("26: print", ((((2 * 31) - 1) * 31 + 7) * 31) * 31, x.print());
        x.move(0, 3, 0);
        Check.same("26: as they are now", ((((2 * 31) + 7) * 31 - 1) * 31) * 31, x.print());
        long due = 0;
        for (int value : new int[] {2, 999 * 999, 998001 * 999, 0, 0, 0, 0, 0, 0, 0, 0}) {
            due = due * 31 + value;
        }
        BeginJudge y = Check.told("unit A{var a=999*999;var b=999*999*999;var c;var d;var e;var f;var g;var h;var i;var j;}main{do A.a;}");
        Check.same("26: a long", due, y.print());
    }

    private static void promise27() {
        BeginJudge x = Check.told(HALF);
        Check.same("27: none yet", 0, x.status(0));
        Check.same("27: none yet", 0, x.status(1));
        Check.answer(() -> x.unit(9, 9));
        Check.answer(() -> x.value(0, 0));
        Check.answer(() -> x.eager(0, 9));
        Check.answer(() -> x.text(1));
        Check.answer(() -> x.told(77));
        x.begun(99);
        x.undo();
        Check.tell(x, "fault");
        Check.same("27: NoSuchElementException", 2, x.status(0));
        Check.same("27: IllegalArgumentException", 3, x.status(1));
        Check.same("27: others", -1, x.status(2));
        Check.same("27: others", -1, x.status(-1));
        Check.same("27: told anew", 0, x.text(0));
        Check.same("27: they stay", 2, x.status(0));
    }
}
