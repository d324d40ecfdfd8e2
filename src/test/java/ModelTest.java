import java.util.ArrayList;
import java.util.List;
import java.util.Random;

/** Random texts, changes and questions, each answer held against the Model's. */
public final class ModelTest {
    private final Random random;
    private final BeginJudge x = new BeginJudge();
    private Model model = Model.read("");
    private final List<List<List<Object[]>>> history = new ArrayList<>();
    private String text = "";

    private ModelTest(long seed) {
        random = new Random(seed);
    }

    public static void main(String[] args) {
        int rounds = args.length > 0 ? Integer.parseInt(args[0]) : 1500;
        int first = args.length > 1 ? Integer.parseInt(args[1]) : 0;
        for (int seed = first; seed < first + rounds && Check.failures() < 20; seed++) {
            ModelTest t = new ModelTest(seed);
            t.tell(t.new Maker().text(seed % 40 == 0 ? 7 : 5));
            for (int i = 0; i < 6; i++) {
                t.compareAll();
                t.change();
            }
            t.compareAll();
            t.tell(t.new Maker().spoilt(t.text));
            t.compareAll();
        }
        for (int seed = first; seed < first + rounds * 20 && Check.failures() < 20; seed++) {
            ModelTest t = new ModelTest(seed);
            t.tell(t.new Maker().spoilt(t.new Maker().text(7)));
        }
        Check.end();
    }

    private final class Maker {
        private final TextMaker maker = new TextMaker(random);

        String text(int units) {
            return maker.text(units);
        }

        String spoilt(String s) {
            return maker.spoilt(s);
        }
    }

    private void tell(String told) {
        int due;
        int place = -1;
        try {
            Model m = Model.read(told);
            due = m.units.size();
            model = m;
            history.clear();
            text = told;
        } catch (Model.Fault f) {
            due = f.code - 10;
            place = f.place;
        }
        Check.same("text of " + told, due, Check.tell(x, told));
        Check.same("fault of " + told, place, x.fault());
    }

    private List<List<Object[]>> picture() {
        List<List<Object[]>> all = new ArrayList<>();
        for (Model.Unit u : model.units) {
            List<Object[]> row = new ArrayList<>();
            for (Model.Member m : u.members) {
                row.add(new Object[] {m, m.on});
            }
            all.add(row);
        }
        return all;
    }

    private void remember(List<List<Object[]>> before) {
        history.add(before);
        if (history.size() > 16) {
            history.remove(0);
        }
    }

    private void change() {
        int times = random.nextInt(8) == 0 ? 20 : 1 + random.nextInt(3);
        for (int i = 0; i < times; i++) {
            int what = random.nextInt(3);
            if (what == 0 || model.units.isEmpty()) {
                undo();
            } else {
                int u = random.nextInt(model.units.size());
                int n = model.units.get(u).members.size();
                if (n > 0 && what == 1) {
                    turn(u, random.nextInt(n));
                } else if (n > 0) {
                    move(u, random.nextInt(n), random.nextInt(n));
                }
            }
        }
    }

    private void undo() {
        if (history.isEmpty()) {
            Check.same("undo", -1, x.undo());
            return;
        }
        List<List<Object[]>> before = history.remove(history.size() - 1);
        for (int u = 0; u < before.size(); u++) {
            List<Model.Member> members = model.units.get(u).members;
            members.clear();
            for (Object[] pair : before.get(u)) {
                Model.Member m = (Model.Member) pair[0];
                m.on = (boolean) pair[1];
                members.add(m);
            }
        }
        Check.same("undo", history.size(), x.undo());
    }

    private void turn(int u, int i) {
        remember(picture());
        Model.Member m = model.units.get(u).members.get(i);
        m.on = !m.on;
        Check.same("turn", m.on ? 1 : 0, x.turn(u, i));
    }

    private void move(int u, int i, int j) {
        if (i != j) {
            remember(picture());
            List<Model.Member> members = model.units.get(u).members;
            members.add(j, members.remove(i));
        }
        Check.same("move", i == j ? 0 : 1, x.move(u, i, j));
    }

    private void compareAll() {
        String say = " of " + text;
        compareTold(say);
        compareMembers(say);
        comparePlain(say);
        compareOrders(say);
        compareWeb(say);
    }

    private void compareTold(String say) {
        int members = 0;
        int on = 0;
        for (Model.Unit u : model.units) {
            members += u.members.size();
            for (Model.Member m : u.members) {
                on += m.on ? 1 : 0;
            }
        }
        int[] due = {model.units.size(), model.steps.size(), members, on, 0, history.size()};
        for (int what = 0; what < 6; what++) {
            Check.same("told " + what + say, due[what], x.told(what));
        }
    }

    private int kinds(Model.Unit u, int kind) {
        int n = 0;
        for (Model.Member m : u.members) {
            n += m.kind == kind ? 1 : 0;
        }
        return n;
    }

    private void compareMembers(String say) {
        for (int u = 0; u < model.units.size(); u++) {
            Model.Unit unit = model.units.get(u);
            int[] due = {unit.letter - 'A', unit.above, unit.members.size(), kinds(unit, 1), kinds(unit, 4)};
            for (int what = 0; what < 5; what++) {
                Check.same("unit " + u + "," + what + say, due[what], x.unit(u, what));
            }
            for (int i = 0; i < unit.members.size(); i++) {
                compareMember(u, i, unit.members.get(i), say);
            }
        }
    }

    private void compareMember(int u, int i, Model.Member m, String say) {
        int name = m.kind == 2 ? -1 : m.kind == 3 ? m.target.name - 'a' : m.name - 'a';
        int terms = m.sum == null ? 0 : m.sum.plainTerms();
        int detail = switch (m.kind) {
            case 0 -> m.number;
            case 3 -> model.indexOf(m.target.unit);
            case 4 -> m.sets.size();
            default -> -1;
        };
        int[] due = {m.kind, m.on ? 1 : 0, name, terms, detail};
        for (int what = 0; what < 5; what++) {
            Check.same("member " + u + "," + i + "," + what + say, due[what], x.member(u, i, what));
        }
    }

    private void comparePlain(String say) {
        Model.Run run = model.new Run(null);
        for (int what = 0; what < 8; what++) {
            Check.same("lazy " + what + say, run.tally(what), x.lazy(what));
        }
        for (int u = 0; u < model.units.size(); u++) {
            Check.same("state " + u + say, run.state[u], x.state(u));
            for (int what = 0; what < 3; what++) {
                int due = run.broken[u] == null ? -1 : run.broken[u][what];
                Check.same("broken " + u + "," + what + say, due, x.broken(u, what));
            }
            for (int name = -1; name <= 26; name++) {
                Model.Member m = name < 0 || name > 25 ? null : model.units.get(u).named((char) ('a' + name));
                String due = m == null || m.kind != 1 ? Check.NO_SUCH : String.valueOf(run.valueOf(m));
                int uu = u;
                int nn = name;
                Check.sameText("value " + u + "," + name + say, due, Check.answer(() -> x.value(uu, nn)));
            }
        }
        for (int k = -1; k < 8; k++) {
            Check.same("begun " + k + say, k >= 0 && k < run.begun.size() ? run.begun.get(k) : -1, x.begun(k));
        }
        int step = Math.max(1, run.surprises.size() / 5);
        for (int k = 0; k < run.surprises.size(); k += step) {
            for (int what = 0; what < 6; what++) {
                Check.same("surprise " + k + "," + what + say, run.surprises.get(k)[what], x.surprise(k, what));
            }
            List<Integer> trace = run.traces.get(k);
            for (int i = -1; i <= trace.size(); i++) {
                Check.same("trace " + k + "," + i + say, i >= 0 && i < trace.size() ? trace.get(i) : -1, x.trace(k, i));
            }
        }
        Check.same("print" + say, model.print(), x.print());
    }

    private void compareOrders(String say) {
        List<int[]> orders = model.orders();
        for (int i = 0; i < 3; i++) {
            int[] order = orders.get(random.nextInt(orders.size()));
            int number = Model.number(order);
            Model.Run run = model.new Run(order);
            for (int what = 0; what < 8; what++) {
                Check.same("eager " + number + "," + what + say, run.tally(what), x.eager(number, what));
            }
            Check.same("alike " + number + say, model.alike(order), x.alike(number));
        }
        int[] fewest = model.fewest();
        for (int what = 0; what < 3; what++) {
            Check.same("fewest " + what + say, fewest[what], x.fewest(what));
        }
    }

    private void compareWeb(String say) {
        for (int u = 0; u < model.units.size(); u++) {
            Check.same("touches " + u + say, Model.bits(model.touches(u)), x.touches(u));
            Check.same("reach " + u + say, Model.bits(model.reach(u)), x.reach(u));
            Check.same("ring " + u + say, Model.bits(model.ring(u)), x.ring(u));
        }
        int[] least = model.least();
        Check.same("least 0" + say, least[0], x.least(0));
        Check.same("least 1" + say, least[1], x.least(1));
        List<int[]> orders = model.orders();
        int[] order = orders.get(random.nextInt(orders.size()));
        Check.same("breaks" + say, model.breaks(order), x.breaks(Model.number(order)));
    }
}
