import java.util.ArrayList;
import java.util.Collections;
import java.util.List;
import java.util.Random;

/** Makes texts by the document's grammar, and spoils them. */
final class TextMaker {
    private final Random random;
    private final List<String> variables = new ArrayList<>();
    private final List<String> constants = new ArrayList<>();
    private final List<String> functions = new ArrayList<>();
    private int terms;
    private int failOdds;
    private boolean towering;
    private int callable;

    TextMaker(Random random) {
        this.random = random;
    }

    String text(int mostUnits) {
        String s = tryText(mostUnits);
        for (int i = 0; i < 100 && s.length() > 600; i++) {
            s = tryText(mostUnits);
        }
        return s.length() > 600 ? "" : s;
    }

    private String tryText(int mostUnits) {
        variables.clear();
        constants.clear();
        functions.clear();
        failOdds = random.nextInt(3) == 0 ? 8 : 60;
        towering = random.nextInt(8) == 0;
        callable = 0;
        List<Character> letters = new ArrayList<>();
        for (char c = 'A'; c <= 'G'; c++) {
            letters.add(c);
        }
        Collections.shuffle(letters, random);
        int n = random.nextInt(mostUnits + 1);
        List<List<String>> plans = new ArrayList<>();
        for (int u = 0; u < n; u++) {
            plans.add(plan(letters.get(u), n));
        }
        StringBuilder s = new StringBuilder();
        for (int u = 0; u < n; u++) {
            s.append("unit ").append(letters.get(u));
            if (u > 0 && random.nextInt(3) == 0) {
                s.append(":").append(letters.get(random.nextInt(u)));
            }
            s.append("{");
            for (String p : plans.get(u)) {
                s.append(member(p));
            }
            s.append("}");
        }
        if (random.nextInt(8) > 0) {
            s.append("main{");
            int steps = random.nextInt(5);
            for (int i = 0; i < steps; i++) {
                s.append(step());
            }
            s.append("}");
        }
        return random.nextInt(4) == 0 ? withBlanks(s.toString()) : s.toString();
    }

    private List<String> plan(char letter, int units) {
        List<String> plan = new ArrayList<>();
        int members = towering ? Math.min(12, 12 / units + random.nextInt(3)) : random.nextInt(units > 4 ? 4 : 7);
        List<Character> names = new ArrayList<>();
        for (char c = 'a'; c <= 'z'; c++) {
            names.add(c);
        }
        Collections.shuffle(names, random);
        for (int i = 0; i < members; i++) {
            String name = letter + "." + names.get(i);
            switch (towering && random.nextInt(5) > 0 ? 5 : random.nextInt(8)) {
                case 0 -> {
                    constants.add(name);
                    plan.add("const " + names.get(i));
                }
                case 1 -> {
                    variables.add(name);
                    plan.add("var " + names.get(i) + ";");
                }
                case 2, 3, 4 -> {
                    variables.add(name);
                    plan.add("var " + names.get(i));
                }
                case 5 -> {
                    functions.add(name);
                    plan.add("fun " + names.get(i));
                }
                default -> plan.add("step");
            }
        }
        return plan;
    }

    private String member(String plan) {
        if (plan.endsWith(";")) {
            return plan;
        }
        if (plan.equals("step")) {
            return step();
        }
        if (plan.startsWith("const")) {
            return plan + "=" + random.nextInt(1000) + ";";
        }
        if (plan.startsWith("var")) {
            return plan + "=" + sum() + ";";
        }
        StringBuilder s = new StringBuilder(plan).append("{");
        int sets = variables.isEmpty() || random.nextInt(3) > 0 ? 0 : random.nextInt(4) + 1;
        for (int i = 0; i < sets; i++) {
            s.append(pick(variables)).append("=").append(sum()).append(";");
        }
        s.append("give ").append(sum()).append(";}");
        callable++;
        return s.toString();
    }

    private String step() {
        if (!variables.isEmpty() && random.nextInt(2) == 0) {
            return pick(variables) + "=" + sum() + ";";
        }
        return "do " + sum() + ";";
    }

    private String sum() {
        terms = random.nextInt(10) == 0 ? 8 : 1 + random.nextInt(3);
        terms += towering && terms < 8 ? 1 : 0;
        return sumOfAll();
    }

    private String sumOfAll() {
        StringBuilder s = new StringBuilder(term());
        while (terms > 0 && random.nextInt(6) > 0) {
            s.append("+-*".charAt(random.nextInt(3))).append(term());
        }
        return s.toString();
    }

    private String term() {
        terms--;
        if (terms > 0 && random.nextInt(5) == 0) {
            return "(" + sumOfAll() + ")";
        }
        if (random.nextInt(failOdds) == 0) {
            return "fail";
        }
        // In a tower FUNCTIONS call those told ahead alone: much WORK, but not too many OPEN.
        if (towering && callable > 0 && random.nextInt(4) > 0) {
            return functions.get(Math.max(0, callable - 1 - random.nextInt(2))) + "()";
        }
        int what = towering ? 9 : random.nextInt(10);
        if (what < 5 && !variables.isEmpty()) {
            return pick(variables);
        }
        if (what < 8 && !functions.isEmpty()) {
            return pick(functions) + "()";
        }
        if (what == 8 && !constants.isEmpty()) {
            return pick(constants);
        }
        return String.valueOf(random.nextInt(random.nextBoolean() ? 10 : 1000));
    }

    private String pick(List<String> from) {
        return from.get(random.nextInt(from.size()));
    }

    private String withBlanks(String s) {
        StringBuilder b = new StringBuilder();
        for (int i = 0; i < s.length(); i++) {
            boolean inside = i > 0 && sameRun(s.charAt(i - 1), s.charAt(i));
            if (!inside && random.nextInt(6) == 0) {
                b.append(random.nextBoolean() ? " " : "  ");
            }
            b.append(s.charAt(i));
        }
        return b.append(random.nextBoolean() ? " " : "").toString();
    }

    private boolean sameRun(char a, char b) {
        return Character.isLowerCase(a) && Character.isLowerCase(b) || Character.isDigit(a) && Character.isDigit(b);
    }

    String spoilt(String text) {
        StringBuilder s = new StringBuilder(text);
        int times = 1 + random.nextInt(2);
        for (int i = 0; i < times; i++) {
            int at = random.nextInt(s.length() + 1);
            switch (random.nextInt(9)) {
                case 6 -> swap(s, at, 'A', 'G');
                case 7 -> swap(s, at, 'a', 'z');
                case 8 -> {
                    int to = s.indexOf(";", at);
                    s.insert(Math.max(to, 0), lump());
                }
                case 0 -> s.insert(at, piece());
                case 1 -> s.delete(at, Math.min(s.length(), at + 1 + random.nextInt(3)));
                case 2 -> s.setLength(at);
                case 3 -> {
                    int to = Math.min(s.length(), at + random.nextInt(60));
                    s.insert(to, s.substring(at, to));
                }
                default -> {
                    if (at < s.length()) {
                        s.replace(at, at + 1, piece());
                    }
                }
            }
        }
        if (s.length() > 600) {
            s.setLength(600);
        }
        return s.toString();
    }

    /** Another letter for the first lone one from here on. */
    private void swap(StringBuilder s, int from, char low, char high) {
        for (int i = from; i < s.length(); i++) {
            boolean alone = (i == 0 || !Character.isLetter(s.charAt(i - 1)))
                    && (i + 1 >= s.length() || !Character.isLetter(s.charAt(i + 1)));
            if (alone && s.charAt(i) >= low && s.charAt(i) <= high) {
                s.setCharAt(i, (char) (low + random.nextInt(high - low + 1)));
                return;
            }
        }
    }

    /** Much of one kind, to go beyond what may be told. */
    private String lump() {
        return switch (random.nextInt(4)) {
            case 0 -> "+1".repeat(random.nextInt(9));
            case 1 -> "*" + "(".repeat(random.nextInt(8)) + "2";
            case 2 -> ";do 1".repeat(random.nextInt(13));
            default -> random.nextBoolean() ? "+1000" : "-0999";
        };
    }

    private String piece() {
        String[] pieces = {"A", "B", "G", "H", "Z", "a", "x", "q", "do ", "var ", "fun ", "const ", "give ", "fail", "main", "unit ",
            "0", "9", "1000", "999", "007", "{", "}", "(", ")", "()", ";", ":", ".", "=", "+", "-", "*", " ", "/", "_", "\0", "\u00e9",
            "do 1;", "A.a=1;", "+1+1+1", "unit A{}", "main{}", ":A", "AB", "ab"};
        return pieces[random.nextInt(pieces.length)];
    }
}
