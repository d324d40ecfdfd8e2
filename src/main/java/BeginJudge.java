import java.util.Arrays;
import java.util.NoSuchElementException;

/** A judge of beginnings: which UNIT begins when, what is seen half made, and what breaks by it. */
public final class BeginJudge {
    public static final int NONE = -1;

    private static final int UNITS = 7;
    private static final int MEMBERS = 12;
    private static final int ALL_MEMBERS = UNITS * MEMBERS;
    private static final int STEPS = 10;
    private static final int SETS = 4;
    private static final int TERMS = 8;
    private static final int NAMES = 26;
    private static final int HIGHEST_NUMBER = 999;
    private static final int TAPE_BYTES = 600;
    private static final int FED_BYTES = 20;
    // A deed takes two bytes of the text at least: a TERM and its ";".
    private static final int DEEDS = TAPE_BYTES / 2;
    private static final int CHANGES = 16;
    private static final int MOST_WORK = 3000;
    private static final int MOST_OPEN = 20;
    private static final int TOO_MUCH = 1000000;

    private static final int CONSTANT = 0;
    private static final int VARIABLE = 1;
    private static final int DO = 2;
    private static final int SET = 3;
    private static final int FUNCTION = 4;

    private static final int NEW = 0;
    private static final int BEGUN = 1;
    private static final int DONE = 2;
    private static final int BROKEN = 3;

    private static final int NUMBER = 0;
    private static final int READ = 1;
    private static final int CALL = 2;
    private static final int FAIL = 3;
    private static final int ADD = 4;
    private static final int TAKE = 5;
    private static final int TIMES = 6;

    private static final int CANT_STAND = 1;
    private static final int NO_NUMBER = 2;
    private static final int TOO_MANY = 3;
    private static final int MISTOLD = 4;
    private static final int UNKNOWN = 5;

    private static final int BY_FAIL = 1;
    private static final int BY_TOUCH = 2;

    private static final int STATIC_PART = 99;
    private static final int OPEN_STEP = 100;

    private final int[] tape;
    private int tapeBytes;
    private final Reader reader;
    private Units units;
    private final Changes changes;
    private final Run plainRun;
    private boolean plainFresh;
    private final Run aheadRun;
    private final int[] orderRow;
    private final Search search;
    private final Web web;
    private int faultPlace;
    private int refusedElements;
    private int refusedArguments;

    public BeginJudge() {
        tape = new int[TAPE_BYTES];
        reader = new Reader();
        units = new Units();
        changes = new Changes();
        plainRun = new Run(units);
        aheadRun = new Run(units);
        orderRow = new int[UNITS];
        search = new Search(units, aheadRun);
        web = new Web();
        faultPlace = NONE;
    }

    public int feed(int a, int b, int c, int d, int e) {
        if (tapeBytes + FED_BYTES > TAPE_BYTES) {
            return NONE;
        }
        putBytes(a);
        putBytes(b);
        putBytes(c);
        putBytes(d);
        putBytes(e);
        return tapeBytes;
    }

    public int text(int n) throws IllegalArgumentException {
        needArgument(n >= 0 && n <= tapeBytes);
        int fault = reader.readText(tape, n);
        tapeBytes = 0;
        if (fault != 0) {
            faultPlace = reader.faultPlace();
            return fault - 10;
        }
        faultPlace = NONE;
        units = reader.handOver(units);
        changes.forget();
        forgetRuns();
        return units.count;
    }

    public int fault() {
        return faultPlace;
    }

    public int move(int unit, int i, int j) throws NoSuchElementException {
        needMember(unit, i);
        needMember(unit, j);
        if (i == j) {
            return 0;
        }
        units.shift(unit, i, j);
        changes.note(unit, i, j);
        forgetRuns();
        return 1;
    }

    public int turn(int unit, int i) throws NoSuchElementException {
        needMember(unit, i);
        units.flip(unit, i);
        changes.note(unit, i, NONE);
        forgetRuns();
        return units.on[units.memberAt(unit, i)];
    }

    public int undo() {
        if (!changes.takeBack(units)) {
            return NONE;
        }
        forgetRuns();
        return changes.count;
    }

    public int told(int what) throws IllegalArgumentException {
        needWhat(what, 5);
        switch (what) {
            case 0: return units.count;
            case 1: return units.steps;
            case 2: return units.countMembers(false);
            case 3: return units.countMembers(true);
            case 4: return tapeBytes;
            default: return changes.count;
        }
    }

    public int unit(int unit, int what) throws NoSuchElementException, IllegalArgumentException {
        needUnit(unit);
        needWhat(what, 4);
        switch (what) {
            case 0: return units.letter[unit];
            case 1: return units.above[unit];
            case 2: return units.members[unit];
            case 3: return units.countKind(unit, VARIABLE);
            default: return units.countKind(unit, FUNCTION);
        }
    }

    public int member(int unit, int i, int what) throws NoSuchElementException, IllegalArgumentException {
        needMember(unit, i);
        needWhat(what, 4);
        int m = units.memberAt(unit, i);
        switch (what) {
            case 0: return units.kind[m];
            case 1: return units.on[m];
            case 2: return units.nameOf(m);
            case 3: return units.termsOf(m);
            default: return units.detailOf(m);
        }
    }

    public int lazy(int what) throws IllegalArgumentException {
        needWhat(what, 7);
        runPlain();
        return plainRun.tally(what);
    }

    public int eager(int order, int what) throws IllegalArgumentException {
        needArgument(takesOrder(order));
        needWhat(what, 7);
        aheadRun.runAhead(units, orderRow);
        return aheadRun.tally(what);
    }

    public int value(int unit, int name) throws NoSuchElementException {
        needUnit(unit);
        int m = units.memberNamed(unit, name);
        needElement(m != NONE && units.kind[m] == VARIABLE);
        runPlain();
        return plainRun.value[m];
    }

    public int state(int unit) throws NoSuchElementException {
        needUnit(unit);
        runPlain();
        return plainRun.state[unit];
    }

    public int begun(int k) {
        runPlain();
        return k >= 0 && k < plainRun.begunCount ? plainRun.begunRow[k] : NONE;
    }

    public int surprise(int k, int what) throws NoSuchElementException, IllegalArgumentException {
        needSurprise(k);
        needWhat(what, 5);
        return sightOf(k).tell(what);
    }

    public int trace(int k, int i) throws NoSuchElementException {
        needSurprise(k);
        Sight sight = sightOf(k);
        return i >= 0 && i < sight.openCount ? sight.open[i] : NONE;
    }

    public int broken(int unit, int what) throws NoSuchElementException, IllegalArgumentException {
        needUnit(unit);
        needWhat(what, 2);
        runPlain();
        return plainRun.state[unit] == BROKEN ? plainRun.breakage[what][unit] : NONE;
    }

    public int alike(int order) throws IllegalArgumentException {
        needArgument(takesOrder(order));
        runPlain();
        aheadRun.runAhead(units, orderRow);
        if (plainRun.tooMuch || aheadRun.tooMuch) {
            return -2;
        }
        return plainRun.agreesWhereDone(aheadRun) ? 1 : 0;
    }

    public int fewest(int what) throws IllegalArgumentException {
        needWhat(what, 2);
        search.seekFewest(units);
        switch (what) {
            case 0: return search.best;
            case 1: return search.leastOrder;
            default: return search.orders;
        }
    }

    public int touches(int unit) throws NoSuchElementException {
        needUnit(unit);
        web.spin(units);
        return web.direct[unit];
    }

    public int reach(int unit) throws NoSuchElementException {
        needUnit(unit);
        web.spin(units);
        return web.reached[unit];
    }

    public int ring(int unit) throws NoSuchElementException {
        needUnit(unit);
        web.spin(units);
        return web.ringOf(unit);
    }

    public int least(int what) throws IllegalArgumentException {
        needWhat(what, 1);
        web.spin(units);
        return what == 0 ? web.fewestBroken() : web.leastBreaking();
    }

    public int breaks(int order) throws IllegalArgumentException {
        needArgument(takesOrder(order));
        web.spin(units);
        return web.countBroken(orderRow);
    }

    public long print() {
        runPlain();
        long sum = 0;
        for (int u = 0; u < units.count; u++) {
            sum = sum * 31 + plainRun.state[u];
            for (int i = 0; i < units.members[u]; i++) {
                int m = units.memberAt(u, i);
                if (units.kind[m] == VARIABLE) {
                    sum = sum * 31 + plainRun.value[m];
                }
            }
        }
        return sum;
    }

    public int status(int what) {
        if (what == 0) {
            return refusedElements;
        }
        return what == 1 ? refusedArguments : NONE;
    }

    private void putBytes(int number) {
        for (int shift = 24; shift >= 0 && tapeBytes < TAPE_BYTES; shift -= 8) {
            tape[tapeBytes] = (number >>> shift) & 255;
            tapeBytes++;
        }
    }

    private void needArgument(boolean fine) {
        if (!fine) {
            refusedArguments++;
            throw new IllegalArgumentException("not to be asked so");
        }
    }

    private void needElement(boolean there) {
        if (!there) {
            refusedElements++;
            throw new NoSuchElementException("not there");
        }
    }

    private void needWhat(int what, int last) {
        needArgument(what >= 0 && what <= last);
    }

    private void needUnit(int unit) {
        needElement(unit >= 0 && unit < units.count);
    }

    private void needMember(int unit, int i) {
        needUnit(unit);
        needElement(i >= 0 && i < units.members[unit]);
    }

    private void needSurprise(int k) {
        runPlain();
        needElement(k >= 0 && k < plainRun.surprises);
    }

    private void forgetRuns() {
        plainFresh = false;
        search.fresh = false;
    }

    private void runPlain() {
        if (!plainFresh) {
            plainRun.runPlainly(units);
            plainFresh = true;
        }
    }

    /** Only one SURPRISE is kept at a time: rows for all of them would fill the room. */
    private Sight sightOf(int k) {
        if (plainRun.sight.wanted != k) {
            plainRun.sight.wanted = k;
            plainRun.runPlainly(units);
        }
        return plainRun.sight;
    }

    /** Whether the number tells an ORDER; if so, the ORDER stands in orderRow. */
    private boolean takesOrder(int order) {
        if (order < 0) {
            return false;
        }
        int rest = order;
        int seen = 0;
        for (int i = units.count - 1; i >= 0; i--) {
            int u = rest % 10;
            rest /= 10;
            if (u >= units.count || (seen >> u & 1) != 0) {
                return false;
            }
            seen |= 1 << u;
            orderRow[i] = u;
        }
        return rest == 0;
    }

    /** SUMS as rows of codes (the operators behind what they join), each perhaps with what it SETS. */
    private static final class Sums {
        int codes;
        final int[] code;
        final int[] operand;
        int deeds;
        final int[] first;
        final int[] behind;
        final int[] target;

        Sums() {
            code = new int[TAPE_BYTES];
            operand = new int[TAPE_BYTES];
            first = new int[DEEDS];
            behind = new int[DEEDS];
            target = new int[DEEDS];
        }

        int countTerms(int deed) {
            int terms = 0;
            for (int c = first[deed]; c < behind[deed]; c++) {
                if (code[c] <= FAIL) {
                    terms++;
                }
            }
            return terms;
        }
    }

    /** UNITS, their MEMBERS and the STEPS as a text told them, and as they were moved and turned since. */
    private static final class Units {
        int count;
        final int[] letter;
        final int[] above;
        final int[] members;
        final int[] kind;
        final int[] name;
        final int[] number;
        final int[] deed;
        final int[] on;
        final int[] place;
        final int[] named;
        int steps;
        final int[] stepDeed;
        final Sums sums;

        Units() {
            letter = new int[UNITS];
            above = new int[UNITS];
            members = new int[UNITS];
            kind = new int[ALL_MEMBERS];
            name = new int[ALL_MEMBERS];
            number = new int[ALL_MEMBERS];
            deed = new int[ALL_MEMBERS];
            on = new int[ALL_MEMBERS];
            place = new int[ALL_MEMBERS];
            named = new int[UNITS * NAMES];
            stepDeed = new int[STEPS];
            sums = new Sums();
        }

        void clear() {
            count = 0;
            steps = 0;
            sums.codes = 0;
            sums.deeds = 0;
            Arrays.fill(members, 0);
            Arrays.fill(named, NONE);
        }

        void addUnit(int unit, int itsLetter, int itsAbove) {
            letter[unit] = itsLetter;
            above[unit] = itsAbove;
            count = unit + 1;
        }

        void addMember(int m, int itsKind) {
            kind[m] = itsKind;
            name[m] = NONE;
            number[m] = NONE;
            deed[m] = NONE;
            on[m] = 1;
            place[m] = m;
            members[m / MEMBERS]++;
        }

        int memberAt(int unit, int i) {
            return place[unit * MEMBERS + i];
        }

        int memberNamed(int unit, int itsName) {
            return itsName >= 0 && itsName < NAMES ? named[unit * NAMES + itsName] : NONE;
        }

        int nameOf(int m) {
            return kind[m] == SET ? name[sums.target[deed[m]]] : name[m];
        }

        int termsOf(int m) {
            if (deed[m] == NONE) {
                return 0;
            }
            return sums.countTerms(kind[m] == FUNCTION ? deed[m] + number[m] : deed[m]);
        }

        int detailOf(int m) {
            return kind[m] == SET ? sums.target[deed[m]] / MEMBERS : number[m];
        }

        int countKind(int unit, int wanted) {
            int found = 0;
            for (int i = 0; i < members[unit]; i++) {
                if (kind[unit * MEMBERS + i] == wanted) {
                    found++;
                }
            }
            return found;
        }

        int countMembers(boolean onAlone) {
            int found = 0;
            for (int u = 0; u < count; u++) {
                for (int i = 0; i < members[u]; i++) {
                    if (!onAlone || on[u * MEMBERS + i] == 1) {
                        found++;
                    }
                }
            }
            return found;
        }

        void flip(int unit, int i) {
            int m = memberAt(unit, i);
            on[m] = 1 - on[m];
        }

        void shift(int unit, int from, int to) {
            int base = unit * MEMBERS;
            int m = place[base + from];
            for (int i = from; i < to; i++) {
                place[base + i] = place[base + i + 1];
            }
            for (int i = from; i > to; i--) {
                place[base + i] = place[base + i - 1];
            }
            place[base + to] = m;
        }
    }

    /** The latest changes, each with what takes it back. */
    private static final class Changes {
        int count;
        private int next;
        private final int[] unit;
        private final int[] from;
        private final int[] to;

        Changes() {
            unit = new int[CHANGES];
            from = new int[CHANGES];
            to = new int[CHANGES];
        }

        void forget() {
            count = 0;
        }

        /** A place to go to of NONE tells that the MEMBER was turned. */
        void note(int itsUnit, int itsFrom, int itsTo) {
            unit[next] = itsUnit;
            from[next] = itsFrom;
            to[next] = itsTo;
            next = (next + 1) % CHANGES;
            count = Math.min(count + 1, CHANGES);
        }

        boolean takeBack(Units units) {
            if (count == 0) {
                return false;
            }
            count--;
            next = (next + CHANGES - 1) % CHANGES;
            if (to[next] == NONE) {
                units.flip(unit[next], from[next]);
            } else {
                units.shift(unit[next], to[next], from[next]);
            }
            return true;
        }
    }

    /**
     * Reads a text into a draft of its own, so that a FAULT leaves all as it was. The text is cut into
     * tokens first; what takes tokens answers false behind a FAULT.
     */
    private static final class Reader {
        // Signs are told by their bytes, so all other kinds of tokens stand above these.
        private static final int STRANGE = 256;
        private static final int CAPITAL = 257;
        private static final int SMALL = 258;
        private static final int DIGITS = 259;
        private static final int UNIT_WORD = 260;
        private static final int MAIN_WORD = 261;
        private static final int CONST_WORD = 262;
        private static final int VAR_WORD = 263;
        private static final int DO_WORD = 264;
        private static final int FUN_WORD = 265;
        private static final int GIVE_WORD = 266;
        private static final int FAIL_WORD = 267;
        private static final int END = NONE;
        // The first END may be taken, and what comes next is looked at all the same.
        private static final int ENDS = 2;

        private Units draft;
        private final int[] unitOfLetter;
        private final int[] codePlace;
        private final int[] targetPlace;
        private int[] bytes;
        private int length;
        private int tokens;
        private final int[] kind;
        private final int[] place;
        private final int[] number;
        private int next;
        private int terms;
        private int fault;
        private int faultAt;

        Reader() {
            draft = new Units();
            unitOfLetter = new int[UNITS];
            codePlace = new int[TAPE_BYTES];
            targetPlace = new int[DEEDS];
            bytes = new int[0];
            kind = new int[TAPE_BYTES + ENDS];
            place = new int[TAPE_BYTES + ENDS];
            number = new int[TAPE_BYTES + ENDS];
        }

        /** The FAULT of the text, 0 without one. */
        int readText(int[] tape, int n) {
            cutTokens(tape, n);
            draft.clear();
            Arrays.fill(unitOfLetter, NONE);
            next = 0;
            fault = 0;
            boolean fine = true;
            for (int u = 0; u <= UNITS && fine && kind[next] == UNIT_WORD; u++) {
                fine = readUnit(u);
            }
            if (fine && readMain() && mustTake(END)) {
                resolveAll();
            }
            return fault;
        }

        int faultPlace() {
            return faultAt;
        }

        /** Gives what was read, and takes what is no longer used to read into. */
        Units handOver(Units old) {
            Units fresh = draft;
            draft = old;
            return fresh;
        }

        private void cutTokens(int[] tape, int n) {
            bytes = tape;
            length = Math.min(n, Math.min(tape.length, TAPE_BYTES));
            tokens = 0;
            int behind = 0;
            for (int i = 0; i < length; i++) {
                if (i >= behind && bytes[i] != ' ') {
                    behind = cutToken(i);
                }
            }
            for (int i = 0; i < ENDS; i++) {
                putToken(END, length, 0);
            }
        }

        private void putToken(int itsKind, int itsPlace, int itsNumber) {
            if (tokens < kind.length) {
                kind[tokens] = itsKind;
                place[tokens] = itsPlace;
                number[tokens] = itsNumber;
                tokens++;
            }
        }

        /** Cuts the token that begins here, and answers the place behind it. */
        private int cutToken(int from) {
            int c = bytes[from];
            if (isDigit(c)) {
                return cutNumber(from);
            }
            if (isSmall(c)) {
                return cutWord(from);
            }
            if (isLetter(c)) {
                putToken(c <= 'G' && standsAlone(from) ? CAPITAL : STRANGE, from, c - 'A');
            } else {
                putToken(c, from, 0);
            }
            return from + 1;
        }

        /** Of a number that is too high only that it is so is kept. */
        private int cutNumber(int from) {
            int sum = 0;
            int i = from;
            while (i < length && isDigit(bytes[i])) {
                sum = Math.min(sum * 10 + bytes[i] - '0', HIGHEST_NUMBER + 1);
                i++;
            }
            putToken(DIGITS, from, sum);
            return i;
        }

        private int cutWord(int from) {
            int i = from + 1;
            while (i < length && isSmall(bytes[i])) {
                i++;
            }
            if (i > from + 1) {
                putToken(wordKind(from, i), from, 0);
            } else {
                putToken(standsAlone(from) ? SMALL : STRANGE, from, bytes[from] - 'a');
            }
            return i;
        }

        private int wordKind(int from, int behind) {
            if (spells("unit", from, behind)) {
                return UNIT_WORD;
            }
            if (spells("main", from, behind)) {
                return MAIN_WORD;
            }
            if (spells("const", from, behind)) {
                return CONST_WORD;
            }
            if (spells("var", from, behind)) {
                return VAR_WORD;
            }
            if (spells("do", from, behind)) {
                return DO_WORD;
            }
            if (spells("fun", from, behind)) {
                return FUN_WORD;
            }
            if (spells("give", from, behind)) {
                return GIVE_WORD;
            }
            return spells("fail", from, behind) ? FAIL_WORD : STRANGE;
        }

        private boolean spells(String word, int from, int behind) {
            if (behind - from != word.length()) {
                return false;
            }
            for (int i = 0; i < word.length(); i++) {
                if (bytes[from + i] != word.charAt(i)) {
                    return false;
                }
            }
            return true;
        }

        private boolean standsAlone(int at) {
            return at + 1 >= length || !isLetter(bytes[at + 1]);
        }

        private boolean isDigit(int c) {
            return c >= '0' && c <= '9';
        }

        private boolean isSmall(int c) {
            return c >= 'a' && c <= 'z';
        }

        private boolean isLetter(int c) {
            return c >= 'a' && c <= 'z' || c >= 'A' && c <= 'Z';
        }

        private boolean refuse(int itsFault) {
            fault = itsFault;
            faultAt = place[next];
            return false;
        }

        private boolean take(int wanted) {
            if (kind[next] != wanted) {
                return false;
            }
            next++;
            return true;
        }

        private boolean mustTake(int wanted) {
            if (kind[next] != wanted) {
                fault = CANT_STAND;
                faultAt = place[next];
                return false;
            }
            next++;
            return true;
        }

        private boolean readUnit(int u) {
            if (u >= UNITS) {
                return refuse(TOO_MANY);
            }
            next++;
            if (!readHead(u)) {
                return false;
            }
            for (int i = 0; !take('}'); i++) {
                if (!isMemberHere()) {
                    return refuse(CANT_STAND);
                }
                if (i >= MEMBERS) {
                    return refuse(TOO_MANY);
                }
                if (!readMember(u, u * MEMBERS + i)) {
                    return false;
                }
            }
            return true;
        }

        private boolean readHead(int u) {
            if (kind[next] != CAPITAL) {
                return refuse(CANT_STAND);
            }
            int letter = number[next];
            if (unitOfLetter[letter] != NONE) {
                return refuse(MISTOLD);
            }
            next++;
            int above = NONE;
            if (take(':')) {
                if (kind[next] != CAPITAL) {
                    return refuse(CANT_STAND);
                }
                above = unitOfLetter[number[next]];
                if (above == NONE) {
                    return refuse(MISTOLD);
                }
                next++;
            }
            draft.addUnit(u, letter, above);
            unitOfLetter[letter] = u;
            return mustTake('{');
        }

        private boolean isMemberHere() {
            switch (kind[next]) {
                case CAPITAL:
                case CONST_WORD:
                case VAR_WORD:
                case DO_WORD:
                case FUN_WORD:
                    return true;
                default:
                    return false;
            }
        }

        private boolean readMember(int u, int m) {
            switch (kind[next]) {
                case CONST_WORD:
                    draft.addMember(m, CONSTANT);
                    return readConstant(u, m);
                case VAR_WORD:
                    draft.addMember(m, VARIABLE);
                    return readVariable(u, m);
                case FUN_WORD:
                    draft.addMember(m, FUNCTION);
                    return readFunction(u, m);
                case DO_WORD:
                    draft.addMember(m, DO);
                    next++;
                    return readDeed(m, false);
                default:
                    draft.addMember(m, SET);
                    return readDeed(m, true);
            }
        }

        /** The name behind the word that told the MEMBER's kind. */
        private boolean readName(int u, int m) {
            next++;
            if (kind[next] != SMALL) {
                return refuse(CANT_STAND);
            }
            int name = number[next];
            if (draft.named[u * NAMES + name] != NONE) {
                return refuse(MISTOLD);
            }
            next++;
            draft.name[m] = name;
            draft.named[u * NAMES + name] = m;
            return true;
        }

        private boolean readConstant(int u, int m) {
            if (!readName(u, m) || !mustTake('=')) {
                return false;
            }
            if (kind[next] != DIGITS) {
                return refuse(CANT_STAND);
            }
            if (number[next] > HIGHEST_NUMBER) {
                return refuse(NO_NUMBER);
            }
            draft.number[m] = number[next];
            next++;
            return mustTake(';');
        }

        private boolean readVariable(int u, int m) {
            if (!readName(u, m)) {
                return false;
            }
            return take('=') ? readDeed(m, false) : mustTake(';');
        }

        private boolean readFunction(int u, int m) {
            if (!readName(u, m) || !mustTake('{')) {
                return false;
            }
            int sets = 0;
            while (kind[next] == CAPITAL) {
                if (sets >= SETS) {
                    return refuse(TOO_MANY);
                }
                if (!readDeed(m, true)) {
                    return false;
                }
                sets++;
            }
            draft.number[m] = sets;
            return mustTake(GIVE_WORD) && readDeed(m, false) && mustTake('}');
        }

        private boolean readMain() {
            if (!take(MAIN_WORD)) {
                return true;
            }
            if (!mustTake('{')) {
                return false;
            }
            for (int i = 0; !take('}'); i++) {
                if (kind[next] != CAPITAL && kind[next] != DO_WORD) {
                    return refuse(CANT_STAND);
                }
                if (i >= STEPS) {
                    return refuse(TOO_MANY);
                }
                draft.stepDeed[i] = draft.sums.deeds;
                draft.steps = i + 1;
                if (!readDeed(NONE, !take(DO_WORD))) {
                    return false;
                }
            }
            return true;
        }

        /** A SUM up to its ";", with what it SETS ahead of it if it sets; m is the MEMBER that it is of. */
        private boolean readDeed(int m, boolean sets) {
            Sums sums = draft.sums;
            int deed = sums.deeds;
            if (deed >= DEEDS) {
                return refuse(TOO_MANY);
            }
            sums.deeds++;
            if (m != NONE && draft.deed[m] == NONE) {
                draft.deed[m] = deed;
            }
            targetPlace[deed] = place[next];
            sums.target[deed] = sets ? readKey() : NONE;
            if (sets && (sums.target[deed] == NONE || !mustTake('='))) {
                return false;
            }
            sums.first[deed] = sums.codes;
            terms = 0;
            boolean fine = readTerms();
            sums.behind[deed] = sums.codes;
            return fine && mustTake(';');
        }

        /** U.f as one number, till all UNITS are told and it can be looked up; NONE behind a FAULT. */
        private int readKey() {
            int letter = number[next];
            next++;
            if (kind[next] == '.') {
                next++;
                if (kind[next] == SMALL) {
                    next++;
                    return letter * NAMES + number[next - 1];
                }
            }
            fault = CANT_STAND;
            faultAt = place[next];
            return NONE;
        }

        private boolean readTerms() {
            if (!readTerm()) {
                return false;
            }
            // The ninth TERM is refused, so no SUM has more of them than this.
            for (int more = 0; more < TERMS; more++) {
                int operator = operatorHere();
                if (operator == NONE) {
                    return true;
                }
                next++;
                if (!readTerm()) {
                    return false;
                }
                putCode(operator, 0, 0);
            }
            return true;
        }

        private int operatorHere() {
            switch (kind[next]) {
                case '+': return ADD;
                case '-': return TAKE;
                case '*': return TIMES;
                default: return NONE;
            }
        }

        private boolean readTerm() {
            int wrong = termFaultHere();
            if (wrong != 0) {
                return refuse(wrong);
            }
            terms++;
            if (take('(')) {
                return readTerms() && mustTake(')');
            }
            if (take(FAIL_WORD)) {
                putCode(FAIL, 0, 0);
                return true;
            }
            if (take(DIGITS)) {
                putCode(NUMBER, number[next - 1], 0);
                return true;
            }
            int itsPlace = place[next];
            int key = readKey();
            if (key == NONE) {
                return false;
            }
            boolean calls = take('(');
            putCode(calls ? CALL : READ, key, itsPlace);
            return !calls || mustTake(')');
        }

        private int termFaultHere() {
            switch (kind[next]) {
                case DIGITS:
                    if (number[next] > HIGHEST_NUMBER) {
                        return NO_NUMBER;
                    }
                    break;
                case '(':
                case CAPITAL:
                case FAIL_WORD:
                    break;
                default:
                    return CANT_STAND;
            }
            return terms < TERMS ? 0 : TOO_MANY;
        }

        private void putCode(int code, int operand, int itsPlace) {
            Sums sums = draft.sums;
            if (sums.codes < TAPE_BYTES) {
                sums.code[sums.codes] = code;
                sums.operand[sums.codes] = operand;
                codePlace[sums.codes] = itsPlace;
                sums.codes++;
            }
        }

        /** Along the text: deeds stand as they were read, and what is SET stands ahead of its SUM. */
        private boolean resolveAll() {
            Sums sums = draft.sums;
            for (int d = 0; d < sums.deeds; d++) {
                if (sums.target[d] != NONE && !resolveTarget(d)) {
                    return false;
                }
                for (int c = sums.first[d]; c < sums.behind[d]; c++) {
                    if ((sums.code[c] == READ || sums.code[c] == CALL) && !resolveCode(c)) {
                        return false;
                    }
                }
            }
            return true;
        }

        private boolean refuseName(int itsPlace) {
            fault = UNKNOWN;
            faultAt = itsPlace;
            return false;
        }

        private boolean resolveTarget(int d) {
            int m = lookUp(draft.sums.target[d]);
            if (m == NONE || draft.kind[m] != VARIABLE) {
                return refuseName(targetPlace[d]);
            }
            draft.sums.target[d] = m;
            return true;
        }

        private boolean resolveCode(int c) {
            Sums sums = draft.sums;
            int m = lookUp(sums.operand[c]);
            if (m == NONE || (draft.kind[m] == FUNCTION) != (sums.code[c] == CALL)) {
                return refuseName(codePlace[c]);
            }
            if (draft.kind[m] == CONSTANT) {
                // To read a CONSTANT touches nothing, so it is as good as its number.
                sums.code[c] = NUMBER;
                sums.operand[c] = draft.number[m];
            } else {
                sums.operand[c] = m;
            }
            return true;
        }

        private int lookUp(int key) {
            int u = unitOfLetter[key / NAMES];
            return u == NONE ? NONE : draft.named[u * NAMES + key % NAMES];
        }
    }

    /** What is known of the one SURPRISE of a RUN that is wanted. */
    private static final class Sight {
        int wanted;
        int openCount;
        final int[] open;
        private int member;
        private int name;
        private int seen;
        private int work;
        private int step;

        Sight() {
            wanted = NONE;
            open = new int[MOST_OPEN];
        }

        void keep(Run run, int m) {
            member = m;
            name = run.units.name[m];
            seen = run.value[m];
            work = run.work;
            step = run.step;
            openCount = run.openCount;
            for (int i = 0; i < openCount; i++) {
                open[i] = run.open[i];
            }
        }

        int tell(int what) {
            switch (what) {
                case 0: return member / MEMBERS;
                case 1: return name;
                case 2: return seen;
                case 3: return work;
                case 4: return openCount;
                default: return step;
            }
        }
    }

    /** One RUN at a time. What works something out answers false if a FAILURE or TOO MUCH ended it. */
    private static final class Run {
        Units units;
        final int[] state;
        final int[] value;
        private final int[] made;
        int begunCount;
        final int[] begunRow;
        final int[][] breakage;
        int openCount;
        final int[] open;
        private final int[] cells;
        private int result;
        int work;
        int surprises;
        private int lost;
        private int failedSteps;
        boolean tooMuch;
        int step;
        final Sight sight;

        Run(Units itsUnits) {
            units = itsUnits;
            state = new int[UNITS];
            value = new int[ALL_MEMBERS];
            made = new int[ALL_MEMBERS];
            begunRow = new int[UNITS];
            breakage = new int[3][UNITS];
            open = new int[MOST_OPEN];
            // At each depth of what is OPEN (MAIN's is 0) one SUM at most is under way.
            cells = new int[(MOST_OPEN + 1) * TERMS];
            sight = new Sight();
        }

        void runPlainly(Units itsUnits) {
            reset(itsUnits);
            runMain();
        }

        void runAhead(Units itsUnits, int[] order) {
            reset(itsUnits);
            for (int i = 0; i < units.count && i < order.length && !tooMuch; i++) {
                touchUnit(order[i]);
            }
            runMain();
        }

        void reset(Units itsUnits) {
            units = itsUnits;
            Arrays.fill(state, NEW);
            Arrays.fill(value, 0);
            begunCount = 0;
            openCount = 0;
            work = 0;
            surprises = 0;
            lost = 0;
            failedSteps = 0;
            tooMuch = false;
        }

        void runMain() {
            for (step = 0; step < units.steps && !tooMuch; step++) {
                if (!doDeed(units.stepDeed[step]) && !tooMuch) {
                    failedSteps++;
                }
            }
        }

        int tally(int what) {
            switch (what) {
                case 0: return surprises;
                case 1: return lost;
                case 2: return failedSteps;
                case 3: return begunCount;
                case 4: return countState(DONE);
                case 5: return countState(BROKEN);
                case 6: return work;
                default: return tooMuch ? 1 : 0;
            }
        }

        private int countState(int wanted) {
            int found = 0;
            for (int u = 0; u < units.count; u++) {
                if (state[u] == wanted) {
                    found++;
                }
            }
            return found;
        }

        boolean agreesWhereDone(Run other) {
            for (int u = 0; u < units.count; u++) {
                if (state[u] == DONE && !agreesIn(u, other)) {
                    return false;
                }
            }
            return true;
        }

        private boolean agreesIn(int u, Run other) {
            for (int m = u * MEMBERS; m < u * MEMBERS + units.members[u]; m++) {
                if (units.kind[m] == VARIABLE && value[m] != other.value[m]) {
                    return false;
                }
            }
            return true;
        }

        private boolean spend() {
            if (work >= MOST_WORK) {
                tooMuch = true;
                return false;
            }
            work++;
            return true;
        }

        private boolean openUp(int what) {
            if (openCount >= MOST_OPEN) {
                tooMuch = true;
                return false;
            }
            open[openCount] = what;
            openCount++;
            return true;
        }

        /** A FAILURE goes up to the STEP always, so all that is OPEN ends at once. */
        private boolean failAll(int why, int touched) {
            int ahead = 0;
            for (int i = openCount - 1; i >= 0; i--) {
                if (open[i] % OPEN_STEP == STATIC_PART) {
                    int u = open[i] / OPEN_STEP;
                    state[u] = BROKEN;
                    breakage[0][u] = why;
                    breakage[1][u] = touched;
                    breakage[2][u] = ahead;
                    ahead++;
                }
            }
            openCount = 0;
            return false;
        }

        boolean touchUnit(int u) {
            if (state[u] == NEW) {
                return beginUnit(u);
            }
            return state[u] != BROKEN || failAll(BY_TOUCH, u);
        }

        private boolean beginUnit(int u) {
            if (work >= MOST_WORK || !openUp(u * OPEN_STEP + STATIC_PART)) {
                tooMuch = true;
                return false;
            }
            work++;
            noteBegun(u);
            if (units.above[u] != NONE && !touchUnit(units.above[u])) {
                return false;
            }
            for (int i = 0; i < units.members[u]; i++) {
                int m = units.memberAt(u, i);
                if (units.on[m] == 1 && !doMember(m)) {
                    return false;
                }
            }
            state[u] = DONE;
            openCount--;
            return true;
        }

        private void noteBegun(int u) {
            state[u] = BEGUN;
            if (begunCount < UNITS) {
                begunRow[begunCount] = u;
                begunCount++;
            }
            for (int m = u * MEMBERS; m < u * MEMBERS + units.members[u]; m++) {
                made[m] = 0;
            }
        }

        private boolean doMember(int m) {
            int kind = units.kind[m];
            if (kind == FUNCTION || units.deed[m] == NONE) {
                return true;
            }
            if (!doDeed(units.deed[m])) {
                return false;
            }
            if (kind == VARIABLE) {
                value[m] = result;
                made[m] = 1;
            }
            return true;
        }

        private boolean doDeed(int deed) {
            if (!workOut(deed)) {
                return false;
            }
            int target = units.sums.target[deed];
            return target == NONE || setVariable(target, result);
        }

        private boolean setVariable(int m, int number) {
            if (!touchUnit(m / MEMBERS) || !spend()) {
                return false;
            }
            if (isEarly(m)) {
                lost++;
            }
            value[m] = number;
            return true;
        }

        private boolean isEarly(int m) {
            return state[m / MEMBERS] == BEGUN && units.deed[m] != NONE && made[m] == 0;
        }

        private boolean workOut(int deed) {
            Sums sums = units.sums;
            int base = openCount * TERMS;
            int top = base - 1;
            for (int c = sums.first[deed]; c < sums.behind[deed]; c++) {
                int code = sums.code[c];
                if (code > FAIL) {
                    top--;
                    cells[top] = join(code, cells[top], cells[top + 1]);
                } else {
                    if (!workOutTerm(code, sums.operand[c])) {
                        return false;
                    }
                    top++;
                    cells[top] = result;
                }
            }
            result = cells[base];
            return true;
        }

        private int join(int code, int left, int right) {
            switch (code) {
                case ADD: return left + right;
                case TAKE: return left - right;
                default: return left * right;
            }
        }

        private boolean workOutTerm(int code, int operand) {
            if (!spend()) {
                return false;
            }
            switch (code) {
                case NUMBER:
                    result = operand;
                    return true;
                case READ:
                    return touchUnit(operand / MEMBERS) && readVariable(operand);
                case CALL:
                    return touchUnit(operand / MEMBERS) && callFunction(operand);
                default:
                    return failAll(BY_FAIL, NONE);
            }
        }

        private boolean readVariable(int m) {
            if (isEarly(m)) {
                if (surprises == sight.wanted) {
                    sight.keep(this, m);
                }
                surprises++;
            }
            result = value[m];
            return true;
        }

        private boolean callFunction(int m) {
            if (!openUp(m / MEMBERS * OPEN_STEP + units.name[m])) {
                return false;
            }
            int give = units.deed[m] + units.number[m];
            for (int d = units.deed[m]; d <= give; d++) {
                if (!doDeed(d)) {
                    return false;
                }
            }
            openCount--;
            return true;
        }
    }

    /**
     * Looks for the ORDERS with the fewest SURPRISES. No TERM chooses by a number what is done next, so
     * between two TOUCHES of EAGER all that counts is which UNITS are NEW, DONE, BROKEN: each such LOOK
     * (a digit of base 3 for each UNIT) and what is TOUCHED next are worked out once, however many
     * ORDERS come by.
     */
    private static final class Search {
        private static final int LOOKS = 2187;
        private static final int LEAPS_OF_LOOK = 8;
        private static final int MAIN = 7;
        private static final int BITS = 12;
        private static final int MASK = 4095;

        boolean fresh;
        int best;
        int leastOrder;
        int orders;
        private final Run run;
        private Units units;
        private final long[] leaps;

        Search(Units itsUnits, Run itsRun) {
            units = itsUnits;
            run = itsRun;
            leaps = new long[LOOKS * LEAPS_OF_LOOK];
        }

        void seekFewest(Units itsUnits) {
            if (fresh) {
                return;
            }
            units = itsUnits;
            Arrays.fill(leaps, NONE);
            best = TOO_MUCH;
            leastOrder = NONE;
            orders = 0;
            goOn(0, 0, 0, 0, 0);
            fresh = true;
        }

        private void goOn(int used, int look, int work, int surprises, int order) {
            if (surprises > best) {
                return;
            }
            if (used == (1 << units.count) - 1) {
                countOrder(sumUp(surprises, work, leapFrom(look, MAIN)), order);
                return;
            }
            for (int u = 0; u < units.count; u++) {
                if ((used >> u & 1) == 0) {
                    long leap = leapFrom(look, u);
                    goOn(used | 1 << u, lookOf(leap), work + workOf(leap), sumUp(surprises, work, leap), order * 10 + u);
                }
            }
        }

        /** ORDERS come by as they grow, so the first one with so many is the least. */
        private void countOrder(int surprises, int order) {
            if (surprises > best) {
                return;
            }
            if (surprises < best || orders == 0) {
                best = surprises;
                leastOrder = order;
                orders = 0;
            }
            orders++;
        }

        private int sumUp(int surprises, int work, long leap) {
            return work + workOf(leap) > MOST_WORK ? TOO_MUCH : surprises + (int) (leap >> 2 * BITS);
        }

        private int workOf(long leap) {
            return (int) (leap >> BITS) & MASK;
        }

        private int lookOf(long leap) {
            return (int) leap & MASK;
        }

        private long leapFrom(int look, int next) {
            int at = look * LEAPS_OF_LOOK + next;
            if (leaps[at] == NONE) {
                setStates(look);
                if (next == MAIN) {
                    run.runMain();
                } else {
                    run.touchUnit(next);
                }
                leaps[at] = leapDone(look);
            }
            return leaps[at];
        }

        private void setStates(int look) {
            run.reset(units);
            int rest = look;
            for (int u = 0; u < UNITS; u++) {
                int digit = rest % 3;
                rest /= 3;
                run.state[u] = digit == 0 ? NEW : digit + 1;
            }
        }

        private long leapDone(int look) {
            if (run.tooMuch) {
                // More than any RUN may take, so that all ORDERS that go this way are TOO MUCH.
                return (long) (MOST_WORK + 1) << BITS | look;
            }
            int lookNow = 0;
            for (int u = UNITS - 1; u >= 0; u--) {
                lookNow = lookNow * 3 + (run.state[u] == NEW ? 0 : run.state[u] - 1);
            }
            return (long) run.surprises << 2 * BITS | (long) run.work << BITS | lookNow;
        }
    }

    /** Who MAY TOUCH whom, as bits. */
    private static final class Web {
        final int[] direct;
        final int[] reached;
        private int count;
        private int bits;
        private int pendingCount;
        private final int[] pending;
        private final int[] noted;
        private final int[] fewestOf;

        Web() {
            direct = new int[UNITS];
            reached = new int[UNITS];
            pending = new int[ALL_MEMBERS];
            noted = new int[ALL_MEMBERS];
            fewestOf = new int[1 << UNITS];
        }

        void spin(Units units) {
            count = units.count;
            for (int u = 0; u < count; u++) {
                direct[u] = touchedBy(units, u);
                reached[u] = direct[u];
            }
            for (int over = 0; over < count; over++) {
                for (int u = 0; u < count; u++) {
                    if ((reached[u] >> over & 1) != 0) {
                        reached[u] |= reached[over];
                    }
                }
            }
        }

        private int touchedBy(Units units, int u) {
            bits = units.above[u] == NONE ? 0 : 1 << units.above[u];
            pendingCount = 0;
            Arrays.fill(noted, 0);
            for (int m = u * MEMBERS; m < u * MEMBERS + units.members[u]; m++) {
                if (units.on[m] == 1 && units.kind[m] != FUNCTION && units.deed[m] != NONE) {
                    addDeed(units.sums, units.deed[m]);
                }
            }
            // FUNCTIONS that call one another are looked through once each, or this would not end.
            for (int i = 0; i < pendingCount; i++) {
                int f = pending[i];
                for (int d = units.deed[f]; d <= units.deed[f] + units.number[f]; d++) {
                    addDeed(units.sums, d);
                }
            }
            return bits;
        }

        private void addDeed(Sums sums, int deed) {
            if (sums.target[deed] != NONE) {
                bits |= 1 << sums.target[deed] / MEMBERS;
            }
            for (int c = sums.first[deed]; c < sums.behind[deed]; c++) {
                if (sums.code[c] == READ || sums.code[c] == CALL) {
                    bits |= 1 << sums.operand[c] / MEMBERS;
                }
                if (sums.code[c] == CALL) {
                    noteFunction(sums.operand[c]);
                }
            }
        }

        private void noteFunction(int f) {
            if (noted[f] == 0) {
                noted[f] = 1;
                pending[pendingCount] = f;
                pendingCount++;
            }
        }

        int ringOf(int unit) {
            int ring = 0;
            for (int u = 0; u < count; u++) {
                if ((reached[unit] >> u & 1) != 0 && (reached[u] >> unit & 1) != 0) {
                    ring |= 1 << u;
                }
            }
            return ring;
        }

        int countBroken(int[] order) {
            int behind = (1 << count) - 1;
            int broken = 0;
            for (int i = 0; i < count && i < order.length; i++) {
                broken += brokenAhead(order[i], behind);
                behind &= ~(1 << order[i]);
            }
            return broken;
        }

        /** What is broken by u as the first of the UNITS that are left. */
        private int brokenAhead(int u, int left) {
            return Integer.bitCount(direct[u] & left & ~(1 << u));
        }

        int fewestBroken() {
            weighAll();
            return fewestOf[(1 << count) - 1];
        }

        /** For each set of UNITS that may be left, the fewest that any ORDER of these breaks. */
        private void weighAll() {
            fewestOf[0] = 0;
            for (int left = 1; left < 1 << count; left++) {
                fewestOf[left] = UNITS * UNITS;
                for (int u = 0; u < count; u++) {
                    if ((left >> u & 1) != 0) {
                        fewestOf[left] = Math.min(fewestOf[left], fewestWith(u, left));
                    }
                }
            }
        }

        private int fewestWith(int u, int left) {
            return brokenAhead(u, left) + fewestOf[left & ~(1 << u)];
        }

        int leastBreaking() {
            weighAll();
            int order = 0;
            int left = (1 << count) - 1;
            for (int i = 0; i < count; i++) {
                int u = firstOfFewest(left);
                order = order * 10 + u;
                left &= ~(1 << u);
            }
            return order;
        }

        private int firstOfFewest(int left) {
            for (int u = 0; u < count; u++) {
                if ((left >> u & 1) != 0 && fewestWith(u, left) == fewestOf[left]) {
                    return u;
                }
            }
            return 0;
        }
    }
}
