import java.lang.management.ManagementFactory;
import java.lang.reflect.Constructor;
import java.lang.reflect.Field;
import java.lang.reflect.Method;
import java.lang.reflect.Modifier;
import java.util.Arrays;
import java.util.Set;
import java.util.TreeSet;

/** The rules of LANGUAGE.md that can be seen from outside: the face, what is static, and how much is made. */
public final class FaceTest {
    private static final String[] FACE = {
        "alike(int)", "begun(int)", "breaks(int)", "broken(int,int)", "eager(int,int)", "fault()", "feed(int,int,int,int,int)",
        "fewest(int)", "lazy(int)", "least(int)", "member(int,int,int)", "move(int,int,int)", "print()", "reach(int)", "ring(int)",
        "state(int)", "status(int)", "surprise(int,int)", "text(int)", "told(int)", "touches(int)", "trace(int,int)", "turn(int,int)",
        "undo()", "unit(int,int)", "value(int,int)"};

    private FaceTest() {
    }

    public static void main(String[] args) throws Exception {
        face();
        insides();
        room();
        Check.end();
    }

    private static void face() throws Exception {
        Class<?> c = BeginJudge.class;
        Check.holds("public and final", Modifier.isPublic(c.getModifiers()) && Modifier.isFinal(c.getModifiers()));
        Set<String> found = new TreeSet<>();
        Set<String> privateNames = new TreeSet<>();
        for (Method m : c.getDeclaredMethods()) {
            if (Modifier.isPrivate(m.getModifiers())) {
                privateNames.add(m.getName());
            } else {
                found.add(m.getName() + Arrays.toString(m.getParameterTypes()).replace(" ", "").replace('[', '(').replace(']', ')'));
                Check.sameText("answer of " + m.getName(), m.getName().equals("print") ? "long" : "int", m.getReturnType().getName());
                Check.holds("public: " + m.getName(), Modifier.isPublic(m.getModifiers()) && !Modifier.isStatic(m.getModifiers()));
            }
        }
        Check.sameText("the face", new TreeSet<>(Arrays.asList(FACE)).toString(), found.toString());
        for (String f : FACE) {
            String name = f.substring(0, f.indexOf('('));
            Check.holds("no private method is named " + name, !privateNames.contains(name));
            for (Class<?> inside : c.getDeclaredClasses()) {
                for (Method m : inside.getDeclaredMethods()) {
                    Check.holds("no method inside is named " + name, !m.getName().equals(name));
                }
            }
        }
        Constructor<?>[] made = c.getDeclaredConstructors();
        Check.same("constructors", 1, made.length);
        Check.holds("a public one without parameters", Modifier.isPublic(made[0].getModifiers()) && made[0].getParameterCount() == 0);
        Field none = c.getDeclaredField("NONE");
        Check.holds("NONE", Modifier.isPublic(none.getModifiers()) && Modifier.isFinal(none.getModifiers()) && none.getInt(null) == -1);
        for (Field f : c.getDeclaredFields()) {
            Check.holds("private: " + f.getName(), Modifier.isPrivate(f.getModifiers()) || f.getName().equals("NONE"));
        }
    }

    private static void insides() {
        Class<?>[] inside = BeginJudge.class.getDeclaredClasses();
        Check.holds("twelve classes at most", inside.length < 12);
        for (Class<?> c : inside) {
            Check.holds("static: " + c, Modifier.isStatic(c.getModifiers()) && !Modifier.isPublic(c.getModifiers()));
            int fields = 0;
            for (Field f : c.getDeclaredFields()) {
                boolean isStatic = Modifier.isStatic(f.getModifiers());
                fields += isStatic ? 0 : 1;
                Check.holds("static fields are final: " + f, !isStatic || Modifier.isFinal(f.getModifiers()));
            }
            Check.holds("some twenty fields: " + c + " has " + fields, fields <= 20);
            for (Method m : c.getDeclaredMethods()) {
                Check.holds("seven parameters: " + m, m.getParameterCount() <= 7);
            }
        }
    }

    /** Questions make nothing at all, so that 512 calls fit the one room of a run. */
    private static void room() {
        com.sun.management.ThreadMXBean threads = (com.sun.management.ThreadMXBean) ManagementFactory.getThreadMXBean();
        BeginJudge x = Check.told("unit A{var x=B.y+1;var z=3;}unit B{var y=A.z+A.x;}unit C:A{do fail;}unit D{fun f{give D.f();}}main{do A.x;}");
        ask(x);
        long before = threads.getCurrentThreadAllocatedBytes();
        for (int i = 0; i < 20; i++) {
            ask(x);
        }
        long made = threads.getCurrentThreadAllocatedBytes() - before;
        Check.holds("20 times all questions made " + made + " bytes", made < 4096);
        before = threads.getCurrentThreadAllocatedBytes();
        new BeginJudge();
        made = threads.getCurrentThreadAllocatedBytes() - before;
        Check.holds("a new object takes " + made + " bytes", made < 300000);
    }

    private static void ask(BeginJudge x) {
        x.feed(0x20202020, 0x20202020, 0x20202020, 0x20202020, 0x66202020);
        x.text(20);
        x.fault();
        x.move(0, 0, 1);
        x.turn(0, 0);
        for (int what = 0; what < 5; what++) {
            x.told(what);
            x.unit(0, what);
            x.member(0, 0, what);
            x.lazy(what);
            x.eager(123, what);
        }
        x.undo();
        x.undo();
        x.value(0, 'x' - 'a');
        x.state(0);
        x.begun(0);
        x.surprise(1, 0);
        x.trace(0, 0);
        x.broken(2, 0);
        x.alike(123);
        x.fewest(1);
        x.touches(0);
        x.reach(0);
        x.ring(0);
        x.least(1);
        x.breaks(123);
        x.print();
        x.status(0);
    }
}
