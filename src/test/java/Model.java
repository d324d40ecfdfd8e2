import java.util.ArrayList;
import java.util.HashMap;
import java.util.HashSet;
import java.util.List;
import java.util.Map;
import java.util.Set;

/** The document once more, as plainly as the Java library allows: a tree, exceptions, all orders tried. */
final class Model {
    static final class Fault extends RuntimeException {
        private static final long serialVersionUID = 1;
        final int code;
        final int place;

        Fault(int code, int place) {
            this.code = code;
            this.place = place;
        }
    }

    static final class Failure extends RuntimeException {
        private static final long serialVersionUID = 1;
        final int why;
        final int touched;
        int broke = 0;

        Failure(int why, int touched) {
            this.why = why;
            this.touched = touched;
        }
    }

    static final class Over extends RuntimeException {
        private static final long serialVersionUID = 1;
    }

    static final class Ref {
        char unit;
        char name;
        int place;
        boolean called;
    }

    static final class Term {
        Integer number;
        boolean fail;
        Ref ref;
        Sum sum;
    }

    static final class Sum {
        final List<Term> terms = new ArrayList<>();
        final List<Character> joins = new ArrayList<>();

        int plainTerms() {
            int n = 0;
            for (Term t : terms) {
                n += t.sum == null ? 1 : t.sum.plainTerms();
            }
            return n;
        }
    }

    static final class Member {
        int kind;
        boolean on = true;
        char name;
        int number;
        Sum sum;
        Ref target;
        final List<Member> sets = new ArrayList<>();
    }

    static final class Unit {
        char letter;
        int above = -1;
        List<Member> members = new ArrayList<>();

        Member named(char name) {
            for (Member m : members) {
                if ((m.kind == 0 || m.kind == 1 || m.kind == 4) && m.name == name) {
                    return m;
                }
            }
            return null;
        }
    }

    List<Unit> units = new ArrayList<>();
    List<Member> steps = new ArrayList<>();

    // ---- reading ----

    private String text;
    private int at;
    private int terms;
    private final List<Object[]> refs = new ArrayList<>();

    static Model read(String text) {
        Model m = new Model();
        m.text = text;
        m.readAll();
        for (Object[] r : m.refs) {
            m.resolve((Ref) r[0], (boolean) r[1]);
        }
        return m;
    }

    private void resolve(Ref ref, boolean isSet) {
        int u = indexOf(ref.unit);
        Member m = u < 0 ? null : units.get(u).named(ref.name);
        boolean fine = m != null && (isSet ? m.kind == 1 : ref.called ? m.kind == 4 : m.kind != 4);
        if (!fine) {
            throw new Fault(5, ref.place);
        }
    }

    int indexOf(char letter) {
        for (int i = 0; i < units.size(); i++) {
            if (units.get(i).letter == letter) {
                return i;
            }
        }
        return -1;
    }

    private char peek() {
        while (at < text.length() && text.charAt(at) == ' ') {
            at++;
        }
        return at < text.length() ? text.charAt(at) : (char) 0xffff;
    }

    private String lexeme() {
        char c = peek();
        int e = at;
        if (c >= 'a' && c <= 'z') {
            while (e < text.length() && text.charAt(e) >= 'a' && text.charAt(e) <= 'z') {
                e++;
            }
        } else if (c >= '0' && c <= '9') {
            while (e < text.length() && text.charAt(e) >= '0' && text.charAt(e) <= '9') {
                e++;
            }
        } else if (at < text.length()) {
            e++;
        }
        return text.substring(at, e);
    }

    private boolean letterBehind(int i) {
        return i < text.length() && (text.charAt(i) + "").matches("[A-Za-z]");
    }

    private boolean isUnitLetter() {
        return lexeme().matches("[A-G]") && !letterBehind(at + 1);
    }

    private boolean isName() {
        return lexeme().matches("[a-z]") && !letterBehind(at + 1);
    }

    private boolean accept(String s) {
        if (lexeme().equals(s)) {
            at += s.length();
            return true;
        }
        return false;
    }

    private void expect(String s) {
        if (!accept(s)) {
            throw new Fault(1, at);
        }
    }

    private char unitLetter() {
        if (!isUnitLetter()) {
            throw new Fault(1, at);
        }
        return text.charAt(at++);
    }

    private void readAll() {
        while (lexeme().equals("unit")) {
            if (units.size() == 7) {
                throw new Fault(3, at);
            }
            accept("unit");
            Unit u = new Unit();
            u.letter = unitLetter();
            if (indexOf(u.letter) >= 0) {
                throw new Fault(4, at - 1);
            }
            if (accept(":")) {
                u.above = indexOf(unitLetter());
                if (u.above < 0) {
                    throw new Fault(4, at - 1);
                }
            }
            units.add(u);
            expect("{");
            while (!accept("}")) {
                readMember(u);
            }
        }
        if (accept("main")) {
            expect("{");
            while (!accept("}")) {
                if (!lexeme().equals("do") && !isUnitLetter()) {
                    throw new Fault(1, at);
                }
                if (steps.size() == 10) {
                    throw new Fault(3, at);
                }
                steps.add(doOrSet());
            }
        }
        if (!lexeme().isEmpty()) {
            throw new Fault(1, at);
        }
    }

    private void readMember(Unit u) {
        if (!lexeme().matches("const|var|do|fun") && !isUnitLetter()) {
            throw new Fault(1, at);
        }
        if (u.members.size() == 12) {
            throw new Fault(3, at);
        }
        if (lexeme().equals("do") || isUnitLetter()) {
            u.members.add(doOrSet());
            return;
        }
        Member m = new Member();
        m.kind = accept("const") ? 0 : accept("var") ? 1 : 4;
        if (m.kind == 4) {
            accept("fun");
        }
        if (!isName()) {
            throw new Fault(1, at);
        }
        m.name = text.charAt(at);
        if (u.named(m.name) != null) {
            throw new Fault(4, at);
        }
        at++;
        u.members.add(m);
        if (m.kind == 0) {
            expect("=");
            m.number = number();
            expect(";");
        } else if (m.kind == 1) {
            if (accept("=")) {
                m.sum = wholeSum();
            }
            expect(";");
        } else {
            expect("{");
            while (isUnitLetter()) {
                if (m.sets.size() == 4) {
                    throw new Fault(3, at);
                }
                m.sets.add(doOrSet());
            }
            expect("give");
            m.sum = wholeSum();
            expect(";");
            expect("}");
        }
    }

    private int number() {
        String s = lexeme();
        if (!s.matches("[0-9]+")) {
            throw new Fault(1, at);
        }
        if (new java.math.BigInteger(s).bitLength() > 10 || Integer.parseInt(s) > 999) {
            throw new Fault(2, at);
        }
        at += s.length();
        return Integer.parseInt(s);
    }

    private Member doOrSet() {
        Member m = new Member();
        if (accept("do")) {
            m.kind = 2;
        } else {
            m.kind = 3;
            m.target = ref();
            refs.add(new Object[] {m.target, true});
            expect("=");
        }
        m.sum = wholeSum();
        expect(";");
        return m;
    }

    private Ref ref() {
        Ref r = new Ref();
        peek();
        r.place = at;
        r.unit = unitLetter();
        expect(".");
        if (!isName()) {
            throw new Fault(1, at);
        }
        r.name = text.charAt(at++);
        return r;
    }

    private Sum wholeSum() {
        terms = 0;
        return sum();
    }

    private Sum sum() {
        Sum s = new Sum();
        s.terms.add(term());
        while (lexeme().matches("[-+*]")) {
            s.joins.add(text.charAt(at++));
            s.terms.add(term());
        }
        return s;
    }

    private Term term() {
        Term t = new Term();
        String s = lexeme();
        boolean digits = s.matches("[0-9]+");
        if (!digits && !s.equals("(") && !s.equals("fail") && !isUnitLetter()) {
            throw new Fault(1, at);
        }
        int place = at;
        if (digits) {
            t.number = number();
        }
        if (terms == 8) {
            throw new Fault(3, place);
        }
        terms++;
        if (digits) {
            return t;
        }
        if (accept("(")) {
            t.sum = sum();
            expect(")");
        } else if (accept("fail")) {
            t.fail = true;
        } else {
            t.ref = ref();
            refs.add(new Object[] {t.ref, false});
            if (accept("(")) {
                t.ref.called = true;
                expect(")");
            }
        }
        return t;
    }

    // ---- running ----

    final class Run {
        final int[] state = new int[7];
        final Map<Member, Integer> value = new HashMap<>();
        final Set<Member> made = new HashSet<>();
        final List<Integer> begun = new ArrayList<>();
        final List<Integer> open = new ArrayList<>();
        final List<int[]> surprises = new ArrayList<>();
        final List<List<Integer>> traces = new ArrayList<>();
        final int[][] broken = new int[7][];
        int lost;
        int failed;
        int work;
        int step;
        boolean over;

        Run(int[] order) {
            try {
                if (order != null) {
                    for (int u : order) {
                        try {
                            touch(u);
                        } catch (Failure f) {
                            open.clear();
                        }
                    }
                }
                for (step = 0; step < steps.size(); step++) {
                    try {
                        perform(steps.get(step));
                    } catch (Failure f) {
                        open.clear();
                        failed++;
                    }
                }
            } catch (Over o) {
                over = true;
            }
        }

        int count(int wanted) {
            int n = 0;
            for (int u = 0; u < units.size(); u++) {
                n += state[u] == wanted ? 1 : 0;
            }
            return n;
        }

        int tally(int what) {
            return switch (what) {
                case 0 -> surprises.size();
                case 1 -> lost;
                case 2 -> failed;
                case 3 -> begun.size();
                case 4 -> count(2);
                case 5 -> count(3);
                case 6 -> work;
                default -> over ? 1 : 0;
            };
        }

        int valueOf(Member m) {
            return value.getOrDefault(m, 0);
        }

        private void spend() {
            if (work + 1 > 3000) {
                throw new Over();
            }
            work++;
        }

        private void touch(int u) {
            if (state[u] == 3) {
                throw new Failure(2, u);
            }
            if (state[u] != 0) {
                return;
            }
            if (open.size() + 1 > 20) {
                throw new Over();
            }
            spend();
            state[u] = 1;
            begun.add(u);
            open.add(u * 100 + 99);
            try {
                Unit unit = units.get(u);
                if (unit.above >= 0) {
                    touch(unit.above);
                }
                for (Member m : unit.members) {
                    if (m.on) {
                        perform(m);
                    }
                }
                state[u] = 2;
                open.remove(open.size() - 1);
            } catch (Failure f) {
                state[u] = 3;
                broken[u] = new int[] {f.why, f.touched, f.broke};
                f.broke++;
                throw f;
            }
        }

        private void perform(Member m) {
            if (m.kind == 1 && m.sum != null) {
                value.put(m, sum(m.sum));
                made.add(m);
            } else if (m.kind == 2) {
                sum(m.sum);
            } else if (m.kind == 3) {
                int v = sum(m.sum);
                int u = indexOf(m.target.unit);
                touch(u);
                spend();
                Member t = units.get(u).named(m.target.name);
                if (t.sum != null && !made.contains(t) && state[u] == 1) {
                    lost++;
                }
                value.put(t, v);
            }
        }

        private int sum(Sum s) {
            int v = term(s.terms.get(0));
            for (int i = 1; i < s.terms.size(); i++) {
                int w = term(s.terms.get(i));
                char join = s.joins.get(i - 1);
                v = join == '+' ? v + w : join == '-' ? v - w : v * w;
            }
            return v;
        }

        private int term(Term t) {
            if (t.sum != null) {
                return sum(t.sum);
            }
            spend();
            if (t.number != null) {
                return t.number;
            }
            if (t.fail) {
                throw new Failure(1, -1);
            }
            int u = indexOf(t.ref.unit);
            Member m = units.get(u).named(t.ref.name);
            if (m.kind == 0) {
                return m.number;
            }
            touch(u);
            return m.kind == 1 ? readVariable(u, m) : call(u, m);
        }

        private int readVariable(int u, Member m) {
            if (m.sum != null && !made.contains(m) && state[u] == 1) {
                surprises.add(new int[] {u, m.name - 'a', valueOf(m), work, open.size(), step});
                traces.add(new ArrayList<>(open));
            }
            return valueOf(m);
        }

        private int call(int u, Member m) {
            if (open.size() + 1 > 20) {
                throw new Over();
            }
            open.add(u * 100 + m.name - 'a');
            for (Member set : m.sets) {
                perform(set);
            }
            int v = sum(m.sum);
            open.remove(open.size() - 1);
            return v;
        }
    }

    // ---- orders ----

    List<int[]> orders() {
        List<int[]> all = new ArrayList<>();
        permute(all, new ArrayList<>());
        return all;
    }

    private void permute(List<int[]> all, List<Integer> begin) {
        if (begin.size() == units.size()) {
            all.add(begin.stream().mapToInt(i -> i).toArray());
            return;
        }
        for (int u = 0; u < units.size(); u++) {
            if (!begin.contains(u)) {
                begin.add(u);
                permute(all, begin);
                begin.remove(begin.size() - 1);
            }
        }
    }

    static int number(int[] order) {
        int n = 0;
        for (int u : order) {
            n = n * 10 + u;
        }
        return n;
    }

    int[] fewest() {
        int best = Integer.MAX_VALUE;
        int least = -1;
        int count = 0;
        for (int[] order : orders()) {
            Run r = new Run(order);
            int s = r.over ? 1000000 : r.surprises.size();
            if (s < best) {
                best = s;
                least = number(order);
                count = 0;
            }
            count += s == best ? 1 : 0;
        }
        return new int[] {best, least, count};
    }

    int alike(int[] order) {
        Run lazy = new Run(null);
        Run eager = new Run(order);
        if (lazy.over || eager.over) {
            return -2;
        }
        for (int u = 0; u < units.size(); u++) {
            for (Member m : units.get(u).members) {
                if (lazy.state[u] == 2 && m.kind == 1 && lazy.valueOf(m) != eager.valueOf(m)) {
                    return 0;
                }
            }
        }
        return 1;
    }

    // ---- who may touch whom ----

    Set<Integer> touches(int u) {
        Set<Integer> found = new HashSet<>();
        if (units.get(u).above >= 0) {
            found.add(units.get(u).above);
        }
        Set<Member> seen = new HashSet<>();
        for (Member m : units.get(u).members) {
            if (m.on && m.kind != 4) {
                look(m, found, seen);
            }
        }
        return found;
    }

    private void look(Member m, Set<Integer> found, Set<Member> seen) {
        if (m.target != null) {
            found.add(indexOf(m.target.unit));
        }
        for (Member set : m.sets) {
            look(set, found, seen);
        }
        if (m.sum != null) {
            look(m.sum, found, seen);
        }
    }

    private void look(Sum s, Set<Integer> found, Set<Member> seen) {
        for (Term t : s.terms) {
            if (t.sum != null) {
                look(t.sum, found, seen);
            } else if (t.ref != null) {
                Member m = units.get(indexOf(t.ref.unit)).named(t.ref.name);
                if (m.kind != 0) {
                    found.add(indexOf(t.ref.unit));
                }
                if (m.kind == 4 && seen.add(m)) {
                    look(m, found, seen);
                }
            }
        }
    }

    Set<Integer> reach(int u) {
        Set<Integer> found = new HashSet<>(touches(u));
        for (boolean more = true; more;) {
            more = false;
            for (int v : new ArrayList<>(found)) {
                more |= found.addAll(touches(v));
            }
        }
        return found;
    }

    Set<Integer> ring(int u) {
        Set<Integer> found = new HashSet<>();
        for (int v : reach(u)) {
            if (reach(v).contains(u)) {
                found.add(v);
            }
        }
        return found;
    }

    static int bits(Set<Integer> set) {
        int b = 0;
        for (int v : set) {
            b |= 1 << v;
        }
        return b;
    }

    int breaks(int[] order) {
        int n = 0;
        for (int i = 0; i < order.length; i++) {
            Set<Integer> touched = touches(order[i]);
            for (int j = i + 1; j < order.length; j++) {
                n += touched.contains(order[j]) ? 1 : 0;
            }
        }
        return n;
    }

    int[] least() {
        int best = Integer.MAX_VALUE;
        int least = -1;
        for (int[] order : orders()) {
            int b = breaks(order);
            if (b < best) {
                best = b;
                least = number(order);
            }
        }
        return new int[] {best, least};
    }

    long print() {
        Run r = new Run(null);
        long p = 0;
        for (int u = 0; u < units.size(); u++) {
            p = p * 31 + r.state[u];
            for (Member m : units.get(u).members) {
                if (m.kind == 1) {
                    p = p * 31 + r.valueOf(m);
                }
            }
        }
        return p;
    }
}
