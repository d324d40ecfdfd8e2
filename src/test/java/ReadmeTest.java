import java.lang.reflect.InvocationTargetException;
import java.lang.reflect.Method;
import java.lang.reflect.Modifier;
import java.nio.charset.StandardCharsets;
import java.nio.file.Files;
import java.nio.file.Path;
import java.util.ArrayList;
import java.util.Arrays;
import java.util.List;
import java.util.Set;
import java.util.TreeSet;
import java.util.regex.Matcher;
import java.util.regex.Pattern;

/** What README.md says: the calls with their answers, and which calls change something and which only ask. */
public final class ReadmeTest {
    private static final Pattern TOLD = Pattern.compile("tell\\(x, \"(.*)\"\\);\\s*// (-?\\d+).*");
    private static final Pattern CALL = Pattern.compile("x\\.(\\w+)\\(([^)]*)\\);\\s*// (-?\\d+).*");
    private static final Pattern ROW = Pattern.compile("\\| `(\\w+)\\(.*");
    private static final String TEXT = "unit A{var x=B.y;var z=1;}unit B{var y=A.z;fun f{A.z=2;give B.y;}}unit C{do fail;var w;}main{do A.x;do C.w;}";

    private ReadmeTest() {
    }

    public static void main(String[] args) throws Exception {
        List<String> page = Files.readAllLines(Path.of("README.md"), StandardCharsets.UTF_8);
        answers(page);
        Set<String> change = rows(page, "## Calls that change");
        Set<String> ask = rows(page, "## Calls that only ask");
        eachCallOnce(change, ask);
        for (Method m : BeginJudge.class.getDeclaredMethods()) {
            if (ask.contains(m.getName())) {
                changesNothing(m);
            }
        }
        changesSomething();
        Check.end();
    }

    private static void answers(List<String> page) throws Exception {
        BeginJudge x = new BeginJudge();
        int calls = 0;
        for (String line : page) {
            Matcher told = TOLD.matcher(line);
            Matcher call = CALL.matcher(line);
            if (told.matches()) {
                Check.same(line, Long.parseLong(told.group(2)), Check.tell(x, told.group(1)));
            } else if (call.matches()) {
                calls++;
                Check.same(line, Long.parseLong(call.group(3)), ask(x, named(call.group(1)), numbers(call.group(2))));
            }
        }
        Check.holds("README.md has calls with answers", calls > 20);
    }

    private static Method named(String name) {
        for (Method m : BeginJudge.class.getDeclaredMethods()) {
            if (m.getName().equals(name)) {
                return m;
            }
        }
        throw new IllegalStateException("README.md has a call that the class has not: " + name);
    }

    private static Object[] numbers(String arguments) {
        List<Object> found = new ArrayList<>();
        for (String argument : arguments.split(",")) {
            if (!argument.isBlank()) {
                found.add(Integer.parseInt(argument.trim()));
            }
        }
        return found.toArray();
    }

    private static long ask(BeginJudge x, Method m, Object[] arguments) throws Exception {
        return ((Number) m.invoke(x, arguments)).longValue();
    }

    private static Set<String> rows(List<String> page, String head) {
        Set<String> found = new TreeSet<>();
        boolean here = false;
        for (String line : page) {
            here = line.startsWith("## ") ? line.equals(head) : here;
            Matcher row = ROW.matcher(line);
            if (here && row.matches()) {
                Check.holds("told once: " + line, found.add(row.group(1)));
            }
        }
        return found;
    }

    private static void eachCallOnce(Set<String> change, Set<String> ask) {
        Set<String> face = new TreeSet<>();
        for (Method m : BeginJudge.class.getDeclaredMethods()) {
            if (Modifier.isPublic(m.getModifiers())) {
                face.add(m.getName());
                Check.holds("README.md tells once what it does: " + m.getName(), change.contains(m.getName()) != ask.contains(m.getName()));
            }
        }
        change.addAll(ask);
        Check.sameText("the calls of README.md", face.toString(), change.toString());
    }

    /** Told, with a change that can be taken back, a FAULT behind it and bytes on the TAPE. */
    private static BeginJudge changed() {
        BeginJudge x = Check.told(TEXT);
        x.turn(1, 1);
        x.move(0, 0, 1);
        Check.tell(x, "?");
        Check.feed(x, "main{}");
        return x;
    }

    /** All answers but those of status(), which counts refused calls. */
    private static String look(BeginJudge x) {
        StringBuilder s = new StringBuilder();
        s.append(x.fault()).append(' ').append(x.print()).append(' ');
        for (int n = 0; n < 8; n++) {
            int k = n;
            s.append(Check.answer(() -> x.told(k))).append(' ').append(x.lazy(k)).append(' ');
            s.append(Check.answer(() -> x.eager(210, k))).append(' ').append(x.begun(k)).append(' ');
            s.append(Check.answer(() -> x.fewest(k))).append(' ').append(Check.answer(() -> x.least(k))).append(' ');
            s.append(Check.answer(() -> x.surprise(0, k))).append(' ').append(Check.answer(() -> x.trace(0, k))).append(' ');
        }
        for (int n = 0; n < 9; n++) {
            int u = n / 3;
            int i = n % 3;
            s.append(Check.answer(() -> x.member(u, i, 1))).append(' ').append(Check.answer(() -> x.member(u, i, 2))).append(' ');
            s.append(x.unit(u, i)).append(' ').append(x.broken(u, i)).append(' ');
            s.append(x.touches(u) * 100 + x.reach(u) * 10 + x.ring(u)).append(' ');
        }
        return s.append(x.alike(12)).append(x.alike(210)).append(x.breaks(120)).toString();
    }

    private static void changesNothing(Method m) throws Exception {
        int[] tried = {-1, 0, 1, 2, 3, 12, 102};
        String due = look(changed());
        int ways = (int) Math.pow(tried.length, m.getParameterCount());
        for (int way = 0; way < ways; way++) {
            Object[] arguments = new Object[m.getParameterCount()];
            int rest = way;
            for (int i = 0; i < arguments.length; i++) {
                arguments[i] = tried[rest % tried.length];
                rest /= tried.length;
            }
            BeginJudge x = changed();
            try {
                m.invoke(x, arguments);
            } catch (InvocationTargetException e) {
                Check.holds("it is counted as refused: " + m, x.status(0) + x.status(1) == 1);
            }
            Check.sameText("nothing is changed by " + m.getName() + Arrays.toString(arguments), due, look(x));
        }
    }

    private static void changesSomething() {
        String told = look(changed());
        BeginJudge fed = changed();
        fed.feed(0, 0, 0, 0, 0);
        Check.holds("feed changes", !told.equals(look(fed)));
        BeginJudge again = changed();
        Check.same("text changes: UNITS", 3, Check.tell(again, "") + again.told(0) + Check.tell(again, TEXT));
        Check.holds("text changes", !told.equals(look(again)));
        BeginJudge moved = changed();
        moved.move(0, 0, 1);
        Check.holds("move changes", !told.equals(look(moved)));
        BeginJudge turned = changed();
        turned.turn(0, 0);
        Check.holds("turn changes", !told.equals(look(turned)));
        BeginJudge back = changed();
        back.undo();
        Check.holds("undo changes", !told.equals(look(back)));
        back.move(0, 0, 1);
        Check.sameText("and what was taken back can be done again", told, look(back));
    }
}
