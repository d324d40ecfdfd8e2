/**
 * The boundary cases that "Terms" names for a TEXT and its FAULTS: a test for each sentence (quoted
 * above it), just inside the boundary, at it and just outside it.
 */
public final class EdgeTextTest {
    private static final String SEVEN = "unit A{}unit B{}unit C{}unit D{}unit E{}unit F{}unit G{}";

    private EdgeTextTest() {
    }

    public static void main(String[] args) {
        unitsSevenAtMost();
        unitsAToG();
        unitsNumberedAsTold();
        aboveToldAhead();
        membersTwelveAtMost();
        membersAtFirstOn();
        setsFourAtMost();
        namesOfSmallLetters();
        namesUnlike();
        termsEightAtMost();
        termsInBracketsToo();
        ninthTermIfOneCanBeginSo();
        numbersUpTo999();
        stepsTenAtMost();
        textUpTo600Bytes();
        partsThatMayBeLeftOut();
        lettersAlone();
        wordsAsManyLetters();
        numbersAsManyDigits();
        blanksMayStand();
        noOtherBlanks();
        leastByteFirst();
        ofOneByteTheFirstInTheList();
        whatCantStandThere();
        textThatEndsTooEarly();
        oneTooMany();
        toldTwice();
        fiveOnlyWithoutTheOthers();
        fiveTheFirstAlongTheText();
        fiveWhatIsNotThere();
        Check.end();
    }

    private static void at(int fault, String text) {
        Check.faultAt(fault, text);
    }

    private static void fine(String text, int units) {
        Check.isTold("a text without a FAULT", text, units);
    }

    /** "UNITS (7 at most ..)"; "an eighth unit". */
    private static void unitsSevenAtMost() {
        fine("", 0);
        fine("unit A{}", 1);
        fine(SEVEN.substring(0, 6 * 8), 6);
        fine(SEVEN, 7);
        fine(SEVEN + "main{}", 7);
        at(3, SEVEN + "|unit A{}");
        at(3, SEVEN + "  |unit");
        at(3, SEVEN + "|unit{");
        at(1, SEVEN + "|uni A{}");
        at(1, SEVEN + "|A{}");
    }

    /** "UNITS (.. A to G ..)"; "U: a capital letter A to G". */
    private static void unitsAToG() {
        for (char u = 'A'; u <= 'G'; u++) {
            BeginJudge x = Check.told("unit " + u + "{var v=" + u + ".v;" + u + ".v=" + u + ".v;}main{do " + u + ".v;" + u + ".v=1;}");
            Check.same("the letter " + u, u - 'A', x.unit(0, 0));
        }
        for (char u = 'H'; u <= 'Z'; u++) {
            at(1, "unit |" + u + "{}");
            at(1, "unit A{}unit B:|" + u + "{}");
            at(1, "unit A{|" + u + ".v=1;}");
            at(1, "main{do |" + u + ".v;}");
            at(1, "main{|" + u + ".v=1;}");
        }
        for (String u : new String[] {"@", "[", "a", "g", "1", "{"}) {
            at(1, "unit |" + u + "{}");
            at(1, "unit A{}unit B:|" + u + "{}");
        }
    }

    /** "UNITS (.. numbered from 0 on as they are told)". */
    private static void unitsNumberedAsTold() {
        BeginJudge x = Check.told("unit G{}unit F{}unit E{}unit D{}unit C{}unit B{}unit A{}");
        for (int u = 0; u < 7; u++) {
            Check.same("the letter of UNIT " + u, 6 - u, x.unit(u, 0));
        }
    }

    /** "each perhaps with one ABOVE it (told ahead)"; "an ABOVE that is not told ahead .. (at it)". */
    private static void aboveToldAhead() {
        Check.same("no ABOVE", -1, Check.told("unit A{}unit B{}").unit(1, 1));
        Check.same("the one ahead", 0, Check.told("unit A{}unit B:A{}").unit(1, 1));
        BeginJudge x = Check.told("unit G{}unit F:G{}unit E:F{}unit D:E{}unit C:D{}unit B:C{}unit A:G{}");
        int[] due = {-1, 0, 1, 2, 3, 4, 0};
        for (int u = 0; u < 7; u++) {
            Check.same("ABOVE of UNIT " + u, due[u], x.unit(u, 1));
        }
        at(4, "unit A:|A{}");
        at(4, "unit A:|B{}unit B{}");
        at(4, "unit A{}unit B: |C{}unit C{}");
        at(4, "unit A:|G");
        at(1, "unit A{}unit B{}unit C:A|:B{}");
        at(1, "unit A{}unit B:|{}");
        at(1, "unit A{}unit B:|:A{}");
        at(1, "unit |:A{}");
    }

    /** "MEMBERS of a UNIT (12 at most ..)"; "a 13th MEMBER .. (by its first byte, if one can begin so)". */
    private static void membersTwelveAtMost() {
        for (int n : new int[] {0, 1, 11, 12}) {
            BeginJudge x = Check.told("unit A{" + "do 1;".repeat(n) + "}");
            Check.same("MEMBERS", n, x.unit(0, 2));
        }
        String kinds = "const a=1;var b;var c=2;do 1;A.b=1;fun d{give 1;}";
        Check.same("twelve of all kinds", 12, Check.told("unit A{" + kinds + kinds.replace("a=", "g=").replace("var b", "var h")
                .replace("var c", "var i").replace("fun d", "fun j") + "}").unit(0, 2));
        String twelve = "unit A{var v;" + "do 1;".repeat(11);
        fine(twelve + "}", 1);
        for (String more : new String[] {"const a=1;", "var a;", "var v;", "do 1;", "A.v=1;", "B.v=1;", "fun a{give 1;}",
            "const", "var", "do", "fun", "A", "G;", "var 1", "do 1000;", "A="}) {
            at(3, twelve + "|" + more + "}");
        }
        for (String more : new String[] {"H.v=1;", "AB.v=1;", "Av=1;", "cons a=1;", "vars", "doo", "give 1;", "main{}", "unit B{}", "fail;",
            "x", "1", ";", "{", "(", "="}) {
            at(1, twelve + "|" + more + "}");
        }
        at(1, twelve + "|");
        at(1, twelve + "  |");
        fine(twelve + "}unit B{" + "do 1;".repeat(12) + "}", 2);
        at(3, twelve + "}unit B{" + "do 1;".repeat(12) + "|do 1;}");
    }

    /** "each ON or OFF; at first ON". */
    private static void membersAtFirstOn() {
        BeginJudge x = Check.told("unit A{const a=1;var b;var c=2;do 1;A.b=1;fun d{give 1;}}");
        for (int i = 0; i < 6; i++) {
            Check.same("ON at first", 1, x.member(0, i, 1));
            x.turn(0, i);
            Check.same("OFF", 0, x.member(0, i, 1));
        }
        Check.tell(x, "unit A{const a=1;var b;}");
        Check.same("ON, told anew", 2, x.told(3));
    }

    /** "FUNCTION: SETS (4 at most), and a SUM that it gives"; "a fifth SET of a FUNCTION". */
    private static void setsFourAtMost() {
        for (int n : new int[] {0, 1, 3, 4}) {
            BeginJudge x = Check.told("unit A{var v;fun f{" + "A.v=1;".repeat(n) + "give 1;}}");
            Check.same("SETS", n, x.member(0, 1, 4));
        }
        String four = "unit A{var v;fun f{" + "A.v=1;".repeat(4);
        for (String more : new String[] {"A.v=1;", "B.v=1;", "G;", "A=", "A.v=1000;"}) {
            at(3, four + "|" + more + "give 1;}}");
        }
        for (String more : new String[] {"H.v=1;", "AA.v=1;", "Av=1;", "a.v=1;", "do 1;", "var x;", ";", "}", "="}) {
            at(1, four + "|" + more + "give 1;}}");
        }
        at(1, four + "|");
        at(1, four + "give 1;|A.v=1;}}");
        at(1, "unit A{fun f{|}}");
        at(1, "unit A{fun f{give 1;|give 1;}}");
        fine(four + "give 1;}fun g{" + "A.v=1;".repeat(4) + "give 1;}}", 1);
        at(3, four + "give 1;}fun g{" + "A.v=1;".repeat(4) + "|A.v=1;give 1;}}");
    }

    /** "Names of CONSTANTS, VARIABLES, FUNCTIONS: a small letter". */
    private static void namesOfSmallLetters() {
        for (char f = 'a'; f <= 'z'; f++) {
            BeginJudge x = Check.told("unit A{const " + f + "=1;}unit B{var " + f + ";B." + f + "=A." + f + ";}unit C{fun " + f
                    + "{give B." + f + ";}do C." + f + "();}");
            for (int u = 0; u < 3; u++) {
                Check.same("the name " + f, f - 'a', x.member(u, 0, 2));
            }
            Check.same("of what is SET", f - 'a', x.member(1, 1, 2));
            Check.same("its value", 0, x.value(1, f - 'a'));
        }
        for (String f : new String[] {"`", "{", "A", "Z", "1", "_", "=", ";"}) {
            at(1, "unit A{const |" + f + "=1;}");
            at(1, "unit A{var |" + f + ";}");
            at(1, "unit A{fun |" + f + "{give 1;}}");
            at(1, "unit A{A.|" + f + "=1;}");
            at(1, "main{do A.|" + f + ";}");
        }
    }

    /** "all of a UNIT unlike"; "a name told twice in its UNIT (at it)". */
    private static void namesUnlike() {
        String[] ahead = {"const x=1;", "var x;", "var x=1;", "fun x{give 1;}"};
        String[] behind = {"const |x=1;", "var |x;", "var |x=1;", "fun |x{give 1;}"};
        for (String first : ahead) {
            for (String second : behind) {
                at(4, "unit A{" + first + second + "}");
                at(4, "unit A{" + first + "do 1;A.x=1;" + second + "}");
                fine("unit A{" + first + second.replace("|x", "y") + "}", 1);
                fine("unit A{" + first + "}unit B{" + second.replace("|", "") + "}", 2);
            }
        }
        at(4, "unit A{var x;}unit B{var x;var |x;}");
        at(4, "unit A{var z;var |z");
        fine("unit A{var x;A.x=1;A.x=2;do A.x;}", 1);
    }

    /** "A SUM: TERMS (8 at most ..)"; "a ninth TERM (by its first byte, likewise)". */
    private static void termsEightAtMost() {
        String[] places = {"unit A{var x=#;}", "unit A{do #;}", "unit A{var x;A.x=#;}", "unit A{fun f{give #;}}", "unit A{var x;fun f{A.x=#;give 1;}}",
            "unit A{}main{do #;}", "unit A{var x;}main{A.x=#;}"};
        for (String place : places) {
            for (int n : new int[] {1, 2, 7, 8}) {
                fine(place.replace("#", terms(n)), 1);
            }
            at(3, place.replace("#", terms(8) + "+|1"));
            at(3, place.replace("#", terms(8) + "* |1 + 1"));
            at(1, place.replace("#", "|"));
        }
        for (int n = 1; n <= 8; n++) {
            Check.same("TERMS", n, Check.told("unit A{do " + terms(n) + ";}").member(0, 0, 3));
        }
        fine("unit A{do " + terms(8) + ";do " + terms(8) + ";}", 1);
        at(3, "unit A{do 1;do " + terms(8) + "-|1;}");
    }

    /** "each "(" SUM ")" and those in it too". */
    private static void termsInBracketsToo() {
        fine("main{do (" + terms(6) + ");}", 0);
        fine("main{do (" + terms(7) + ");}", 0);
        at(3, "main{do (" + terms(7) + "+|1);}");
        fine("main{do 1+(" + terms(6) + ");}", 0);
        at(3, "main{do 1+(" + terms(6) + "+|1);}");
        fine("main{do (" + terms(6) + ")+1;}", 0);
        at(3, "main{do (" + terms(7) + ")+|1;}");
        fine("main{do (1)+(1)+(1)+(1);}", 0);
        at(3, "main{do (1)+(1)+(1)+(1)+|1;}");
        for (int deep = 1; deep <= 7; deep++) {
            fine("main{do " + "(".repeat(deep) + "1" + ")".repeat(deep) + ";}", 0);
        }
        at(3, "main{do " + "(".repeat(8) + "|1" + ")".repeat(8) + ";}");
        at(3, "main{do " + "(".repeat(8) + "|(1" + ")".repeat(9) + ";}");
        at(3, "main{do ((((((((|" + "(".repeat(500));
        at(1, "main{do " + "(".repeat(8) + "|)" + ")".repeat(7) + ";}");
        fine("unit A{fun f{give 1;}do " + "A.f()+".repeat(7) + "A.f();}", 1);
    }

    /** "a ninth TERM (by its first byte, likewise)": if one can begin so. */
    private static void ninthTermIfOneCanBeginSo() {
        String eight = "main{do " + terms(8) + "+";
        for (String term : new String[] {"0", "999", "fail", "(1)", "(", "A.x", "A", "G.f()", "A+"}) {
            at(3, eight + "|" + term + ";}");
        }
        for (String term : new String[] {"H.x", "AA.x", "Ax", "a", "fai", "fails", ")", ";", "+1", "-1", "=", ".", "{"}) {
            at(1, eight + "|" + term + ";}");
        }
        at(1, eight + "|");
        at(1, eight + " |");
        at(2, eight + "|1000;}");
    }

    private static String terms(int n) {
        return "1+".repeat(n - 1) + "1";
    }

    /** "a number (0 to 999)"; "2 a number that is none such". */
    private static void numbersUpTo999() {
        for (int n : new int[] {0, 1, 9, 10, 99, 100, 998, 999}) {
            BeginJudge x = Check.told("unit A{const k=" + n + ";var v=" + n + ";}main{do A.v;}");
            Check.same("a CONSTANT's number", n, x.member(0, 0, 4));
            Check.same("a TERM's number", n, x.value(0, 'v' - 'a'));
        }
        for (String n : new String[] {"1000", "1001", "9999", "10000", "2147483647", "2147483648", "4294967295", "4294967296", "4294967297",
            "18446744073709551616", "18446744073709551617", "9".repeat(500), "1" + "0".repeat(500)}) {
            at(2, "unit A{const k=|" + n + ";}");
            at(2, "main{do |" + n + ";}");
            at(2, "main{do 1+ |" + n + "+1;}");
        }
        at(1, "unit A{const k=|-1;}");
        at(1, "main{do |-1;}");
        at(1, "unit A{const k=|;}");
        at(1, "main{do |;}");
    }

    /** "MAIN: STEPS (10 at most, numbered from 0 on): DO or SET"; "an 11th STEP". */
    private static void stepsTenAtMost() {
        for (int n : new int[] {0, 1, 9, 10}) {
            Check.same("STEPS", n, Check.told("main{" + "do 1;".repeat(n) + "}").told(1));
            Check.same("STEPS that SET", n, Check.told("unit A{var v;}main{" + "A.v=1;".repeat(n) + "}").told(1));
        }
        String ten = "main{" + "do 1;".repeat(10);
        for (String more : new String[] {"do 1;", "do", "do 1000;", "A.v=1;", "G", "A="}) {
            at(3, ten + "|" + more + "}");
        }
        for (String more : new String[] {"var v;", "const k=1;", "fun f{give 1;}", "give 1;", "dot 1;", "H.v=1;", "Av=1;", "1;", ";", "("}) {
            at(1, ten + "|" + more + "}");
        }
        at(1, ten + "|");
    }

    /** "A TEXT has up to 600 bytes". */
    private static void textUpTo600Bytes() {
        for (int n : new int[] {580, 599, 600}) {
            fine(" ".repeat(n), 0);
            fine("unit A{}" + " ".repeat(n - 8), 1);
            fine(" ".repeat(n - 8) + "unit A{}", 1);
            at(1, " ".repeat(n - 1) + "|u");
            at(1, " ".repeat(n - 8) + "unit A{ |");
            at(1, "|}" + " ".repeat(n - 1));
            at(1, "|" + "}".repeat(n));
            at(1, "|" + "A".repeat(n));
            at(1, "|" + "a".repeat(n));
            at(1, "|" + "1".repeat(n));
            at(1, "unit A|" + "1".repeat(n - 6));
        }
        BeginJudge x = new BeginJudge();
        Check.feed(x, " ".repeat(600));
        Check.same("no more than 600 bytes come on the TAPE", -1, x.feed(0, 0, 0, 0, 0));
        Check.throwsIt("no text of 601 bytes", Check.ILLEGAL, () -> x.text(601));
        Check.same("one of 600", 0, x.text(600));
    }

    /** "{ "unit" U [ ":" U ] "{" { MEMBER } "}" } [ "main" "{" { STEP } "}" ]": what may be left out, what comes once. */
    private static void partsThatMayBeLeftOut() {
        fine("", 0);
        fine(" ", 0);
        fine("main{}", 0);
        fine("unit A{}", 1);
        fine("unit A{}main{}", 1);
        at(1, "main{}|main{}");
        at(1, "main{}|unit A{}");
        at(1, "main{}|}");
        at(1, "unit A{}|}");
        at(1, "|}");
        at(1, "main |do 1;}");
        at(1, "unit A |do 1;}");
        at(1, "unit A{}main|;");
        at(1, "unit A{|unit B{}}");
        at(1, "main|:A{}");
        BeginJudge x = Check.told("unit A{var v;var w=1;}");
        Check.same("a VARIABLE without a SUM", 0, x.member(0, 0, 3));
        Check.same("with one", 1, x.member(0, 1, 3));
        at(1, "unit A{const k|;}");
        at(1, "unit A{do|;}");
        at(1, "unit A{A.x|;}");
    }

    /** "U .., f .., each alone (no other letter right behind it)". */
    private static void lettersAlone() {
        String[] places = {"unit |U{}", "unit A{}unit B:|U{}", "unit A{|U.x=1;}", "main{|U.x=1;}", "main{do |U.x;}", "main{do |U.f();}",
            "unit A{fun f{|U.x=1;give 1;}}"};
        for (String place : places) {
            for (String u : new String[] {"AA", "AG", "AZ", "Aa", "Ax", "Az", "GH"}) {
                at(1, place.replace("U", u));
            }
            at(1, place.substring(0, place.indexOf('|')) + "|AZ");
            at(1, place.replace("|U", "A|1"));
            at(1, place.replace("|U", "A|_"));
            at(1, place.replace("|U", "A |A"));
            at(1, place.replace("|U", "A |a"));
        }
        String[] names = {"unit A{const |f=1;}", "unit A{var |f;}", "unit A{var |f=1;}", "unit A{fun |f{give 1;}}", "unit A{A.|f=1;}",
            "main{do A.|f;}", "main{do A.|f();}", "main{A.|f=1;}"};
        for (String place : names) {
            for (String f : new String[] {"xa", "xz", "xA", "xZ", "do", "fail"}) {
                at(1, place.replace("|f", "|" + f));
            }
            at(1, place.substring(0, place.indexOf('|')) + "|aZ");
            at(1, place.replace("|f", "x|1"));
            at(1, place.replace("|f", "x |a"));
            at(1, place.replace("|f", "x |A"));
        }
        // At the end there is nothing right behind it.
        at(1, "unit A|");
        at(1, "unit A{var x|");
        fine("unit A {var x ;do A .x ;}", 1);
    }

    /** "Words are as many small letters as stand there". */
    private static void wordsAsManyLetters() {
        String[] texts = {"|unit A{}", "|main{}", "unit A{|const k=1;}", "unit A{|var v;}", "unit A{|do 1;}", "unit A{|fun f{give 1;}}",
            "unit A{fun f{|give 1;}}", "main{|do 1;}", "main{do |fail;}"};
        for (String text : texts) {
            int from = text.indexOf('|') + 1;
            int behind = from;
            while (behind < text.length() && Character.isLowerCase(text.charAt(behind))) {
                behind++;
            }
            String ahead = text.substring(0, from);
            String word = text.substring(from, behind);
            String rest = text.substring(behind);
            fine(text.replace("|", ""), text.contains("unit") ? 1 : 0);
            at(1, ahead + word.substring(1) + rest);
            at(1, ahead + word.substring(0, word.length() - 1) + rest);
            for (int i = 0; i < word.length(); i++) {
                at(1, ahead + word.substring(0, i) + "y" + word.substring(i + 1) + rest);
            }
            at(1, ahead + word + "a" + rest);
            at(1, ahead + word + "z" + rest);
            at(1, ahead + word + word + rest);
            at(1, ahead + word.substring(0, 1) + " " + word.substring(1) + rest);
            at(1, ahead + Character.toUpperCase(word.charAt(0)) + word.substring(1) + rest);
        }
        // What is no small letter ends a word.
        fine("unitA{}", 1);
        fine("unitA{var v;doA.v;do5;do(1);}", 1);
        at(1, "unit A{|varv;}");
        at(1, "main{|dofail;}");
        at(1, "main{do fail|A;}");
        at(1, "main{do fail|1;}");
    }

    /** "numbers as many digits". */
    private static void numbersAsManyDigits() {
        BeginJudge x = Check.told("unit A{const a=9;const b=99;const c=999;}");
        int[] due = {9, 99, 999};
        for (int i = 0; i < 3; i++) {
            Check.same("as many digits as stand there", due[i], x.member(0, i, 4));
        }
        at(2, "main{do |9999;}");
        at(1, "main{do 999 |9;}");
        at(1, "main{do 1|A.x;}");
        at(1, "main{do 1|x;}");
        at(1, "main{do 1|.5;}");
    }

    /** "blanks (32) may stand ahead of all words, letters, numbers, signs, and at the end". */
    private static void blanksMayStand() {
        String tokens = "unit A { const k = 1 ; var v ; var w = ( A . k + 2 ) * 3 - 4 ; do fail ; A . v = A . f ( ) ; fun f { A . v = 5 ; give A . v ; } }"
                + " unit B : A { } main { do A . f ( ) ; A . v = 999 ; }";
        for (String gap : new String[] {" ", "  ", "   "}) {
            BeginJudge x = Check.told(tokens.replace(" ", gap));
            Check.same("UNITS", 2, x.told(0));
            Check.same("MEMBERS", 6, x.told(2));
            Check.same("STEPS", 2, x.told(1));
            Check.same("TERMS", 4, x.member(0, 2, 3));
        }
        fine("   " + tokens + "   ", 2);
        fine(tokens.replace(" ", "").replace("constk", "const k").replace("varv", "var v").replace("varw", "var w").replace("dofail", "do fail")
                .replace("funf", "fun f"), 2);
    }

    /** "blanks (32)": no other byte is one. */
    private static void noOtherBlanks() {
        for (char c : new char[] {0, 1, 9, 10, 11, 12, 13, 31, 33, 127, 128, 160, 255}) {
            at(1, "|" + c);
            at(1, "|" + c + "unit A{}");
            at(1, "unit|" + c + "A{}");
            at(1, "unit A|" + c + "{}");
            at(1, "unit A{}|" + c);
            at(1, "unit A{}  |" + c);
            at(1, "main{do 1|" + c + ";}");
            at(1, "main{do |" + c + "1;}");
        }
    }

    /** "of several of 1 to 4 the one whose first byte is least". */
    private static void leastByteFirst() {
        String[] parts = {"var 1;", "do 1000;", "do " + terms(9) + ";", "var x;var x;"};
        String[] marked = {"var |1;", "do |1000;", "do " + terms(8) + "+|1;", "var x;var |x;"};
        for (int first = 0; first < 4; first++) {
            for (int second = 0; second < 4; second++) {
                at(first + 1, "unit A{" + marked[first] + parts[second] + "}");
            }
        }
        at(4, "unit A{}unit |A{var 1;}");
        at(3, "unit A{" + "do 1;".repeat(12) + "|var 1;}");
        at(3, SEVEN + "|unit A{do 1000;}");
    }

    /** "of one byte the first in this list". */
    private static void ofOneByteTheFirstInTheList() {
        at(1, "unit A{}unit |AB{}");
        at(1, "unit A:|BB{}");
        at(1, "unit A{var x;var |xx;}");
        at(1, SEVEN + "|unity A{}");
        at(1, "unit A{" + "do 1;".repeat(12) + "|AA.x=1;}");
        at(1, "main{" + "do 1;".repeat(10) + "|AA.x=1;}");
        at(1, "main{do " + terms(8) + "+|AA.x;}");
        at(2, "main{do " + terms(8) + "+|1000;}");
        at(3, "main{do " + terms(8) + "+|999;}");
    }

    /** "1 what can't stand there (by its first byte ..)": each sign left out, and a strange one ahead of each. */
    private static void whatCantStandThere() {
        String[] tokens = ("unit A { const k = 1 ; var v ; var w = ( A . k + 2 ) ; do fail ; A . v = A . f ( ) ; fun f { A . v = 5 ; give A . v ; } } "
                + "unit B : A { } main { do A . f ( ) ; A . v = 999 ; }").split(" ");
        for (int i = 0; i <= tokens.length; i++) {
            for (String strange : new String[] {"?", "x y", "word", "H", "\"", "/", "<"}) {
                if (!(strange.startsWith("x") && i > 0 && takesName(tokens, i))) {
                    at(1, join(tokens, 0, i) + "|" + strange + " " + join(tokens, i, tokens.length));
                }
            }
        }
    }

    private static boolean takesName(String[] tokens, int i) {
        return ".".equals(tokens[i - 1]) || "const".equals(tokens[i - 1]) || "var".equals(tokens[i - 1]) || "fun".equals(tokens[i - 1]);
    }

    private static String join(String[] tokens, int from, int behind) {
        StringBuilder s = new StringBuilder();
        for (int i = from; i < behind; i++) {
            s.append(tokens[i]).append(' ');
        }
        return s.toString();
    }

    /** "at the length, if the text ends too early": behind each word and sign of a text. */
    private static void textThatEndsTooEarly() {
        String[] tokens = ("unit A { const k = 1 ; var v ; var w = ( A . k + 2 ) * 3 - 4 ; do fail ; A . v = A . f ( ) ; fun f { A . v = 5 ; give A . v ; } } "
                + "unit B : A { } main { do A . f ( ) ; A . v = 999 ; }").split(" ");
        int deep = 0;
        for (int i = 1; i <= tokens.length; i++) {
            deep += tokens[i - 1].equals("{") ? 1 : tokens[i - 1].equals("}") ? -1 : 0;
            String text = join(tokens, 0, i);
            boolean whole = deep == 0 && tokens[i - 1].equals("}");
            if (whole) {
                Check.same("a whole text: " + text, tokens.length - i > 20 ? 1 : 2, Check.tell(new BeginJudge(), text));
            } else {
                at(1, text + "|");
                at(1, text.trim() + "|");
                at(1, text + "    |");
            }
        }
        // Told by n, whatever stands behind it on the TAPE.
        BeginJudge x = new BeginJudge();
        Check.feed(x, "unit A{var x=1;}main{}");
        Check.same("cut", -9, x.text(15));
        Check.same("at the length", 15, x.fault());
        Check.feed(x, "unit A{var x=1;}main{}");
        Check.same("just not cut", 1, x.text(16));
        Check.feed(x, "unit A{}main{}");
        Check.same("a word that is cut", -9, x.text(9));
        Check.same("by its first byte", 8, x.fault());
        Check.feed(x, "main{do 9999;}");
        Check.same("a number that is cut", -9, x.text(11));
        Check.same("at the length", 11, x.fault());
        Check.feed(x, "unit AB{}");
        Check.same("a letter that is alone by the cut", -9, x.text(6));
        Check.same("at the length", 6, x.fault());
        Check.feed(x, "unit AB{}");
        Check.same("a letter that is not", -9, x.text(7));
        Check.same("at it", 5, x.fault());
    }

    /** "3 one too many: an eighth "unit", a 13th MEMBER, an 11th STEP, a fifth SET of a FUNCTION .., a ninth TERM". */
    private static void oneTooMany() {
        at(3, SEVEN + " |unit");
        at(3, "unit A{" + "do 1;".repeat(12) + " |do");
        at(3, "main{" + "do 1;".repeat(10) + " |do");
        at(3, "unit A{fun f{" + "A.x=1;".repeat(4) + " |A");
        at(3, "main{do " + terms(8) + "+ |1");
        // All are full, and none is too many.
        fine(SEVEN.replace("unit G{}", "unit G{" + "do 1;".repeat(7) + "var x;fun g{give 1;}fun h{give 1;}fun i{give 1;}"
                + "fun f{" + ("G.x=" + terms(8) + ";").repeat(4) + "give " + terms(8) + ";}}")
                + "main{" + ("do " + terms(8) + ";").repeat(10) + "}", 7);
    }

    /** "4 a UNIT told twice .. (at it)". */
    private static void toldTwice() {
        for (char u = 'A'; u <= 'G'; u++) {
            at(4, "unit " + u + "{}unit |" + u + "{}");
        }
        at(4, SEVEN.substring(0, 6 * 8) + "unit |A{}");
        at(4, SEVEN.substring(0, 6 * 8) + "unit |F");
        at(4, "unit A{}unit B{}unit |A:B{}");
        at(4, "unit A{}unit |A:C{}");
    }

    /** "If there is none of these: 5". */
    private static void fiveOnlyWithoutTheOthers() {
        String five = "unit A{do B.x;}";
        at(5, "unit A{do |B.x;}");
        at(1, five + "|?");
        at(1, five + "main{|");
        at(2, five + "main{do |1000;}");
        at(3, five + "main{do " + terms(8) + "+|1;}");
        at(4, five + "unit |A{}");
        at(4, five + "unit C:|B{}");
        at(4, five + "unit C{var x;var |x;}");
        at(1, "unit A{}main{A.x=|;}");
    }

    /** "5, the first along the text, at the U". */
    private static void fiveTheFirstAlongTheText() {
        at(5, "unit A{|A.x=A.y;}");
        at(5, "unit A{var x;A.x=1+(2-|A.y)*A.z;}");
        at(5, "unit A{do 1+|A.y+A.z;}main{do A.q;}");
        at(5, "unit A{fun f{|A.y=A.z;give A.q;}do A.w;}");
        at(5, "unit A{fun f{give |A.q;}do A.w;}");
        at(5, "unit A{var v=|A.q;}unit B{do A.w;}");
        at(5, "unit A{var v;}main{do A.v;do |A.q;A.w=1;}");
        at(5, "unit A{var v;}main{do A.v; |A . w = A.q;}");
        at(5, "unit A{var v;do A.v+ |A . v ( );}");
        at(5, "main{|A.x=1;}");
        at(5, "main{do |G.x;}");
    }

    /** "a UNIT that is not there, a name that it has not, has as another thing (..)". */
    private static void fiveWhatIsNotThere() {
        String all = "unit A{const c=1;var v;fun f{give 1;}}unit B{var b;}main{";
        fine(all + "do A.c+A.v+A.f();A.v=1;B.b=A.c;}", 2);
        for (String wrong : new String[] {"do |C.v;", "do |C.f();", "|C.v=1;", "do |A.b;", "do |A.b();", "|A.b=1;", "do |B.v;", "|B.v=1;", "do |B.f();",
            "|A.c=1;", "|A.f=1;", "do |A.f;", "do |A.c();", "do |A.v();"}) {
            at(5, all + wrong + "}");
            at(5, all + "do A.v;" + wrong + "do A.q;}");
        }
        // Told behind is told.
        fine("unit A{do B.v+B.f();B.v=1;var w=A.x;var x;}unit B{var v;fun f{give B.g();}fun g{give 1;}}", 2);
    }
}
