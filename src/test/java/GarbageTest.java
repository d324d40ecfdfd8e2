import java.util.NoSuchElementException;
import java.util.Random;

/** Any arguments in any state: only what the document names is thrown, and a call that throws is counted and changes nothing. */
public final class GarbageTest {
    private static final int[] EDGES = {Integer.MIN_VALUE, Integer.MAX_VALUE, -2, -1, 0, 1, 2, 3, 5, 6, 7, 8, 10, 11, 12, 20, 25, 26,
        84, 99, 100, 102, 210, 599, 600, 601, 3000, 6543210, 123456, 1000000, 0x756e6974, 0x20417b7d, 0x20202020};

    private final Random random;
    private final BeginJudge x = new BeginJudge();
    private int noSuch = 0;
    private int illegal = 0;

    private GarbageTest(long seed) {
        random = new Random(seed);
    }

    public static void main(String[] args) {
        for (int seed = 0; seed < 400; seed++) {
            GarbageTest t = new GarbageTest(seed);
            for (int i = 0; i < 300; i++) {
                t.step();
            }
        }
        Check.end();
    }

    private int any() {
        return random.nextInt(3) == 0 ? EDGES[random.nextInt(EDGES.length)] : random.nextInt(9) - 1;
    }

    private void step() {
        if (random.nextInt(30) == 0) {
            TextMaker maker = new TextMaker(random);
            String s = maker.text(6);
            Check.tell(x, random.nextInt(4) == 0 ? maker.spoilt(s) : s);
        }
        long before = x.print() * 31 + x.told(3) + x.told(4) * 1000L + x.told(5) * 1000000L + x.fault() * 31L;
        try {
            call(random.nextInt(26));
        } catch (NoSuchElementException e) {
            noSuch++;
            same(before);
        } catch (IllegalArgumentException e) {
            illegal++;
            same(before);
            Check.holds("no class below it", e.getClass() == IllegalArgumentException.class);
        } catch (RuntimeException e) {
            Check.fail("a call threw " + e);
        }
        Check.same("status 0", noSuch, x.status(0));
        Check.same("status 1", illegal, x.status(1));
    }

    private void same(long before) {
        long now = x.print() * 31 + x.told(3) + x.told(4) * 1000L + x.told(5) * 1000000L + x.fault() * 31L;
        Check.same("what throws changes nothing", before, now);
    }

    private void call(int which) {
        switch (which) {
            case 0 -> x.feed(any(), any(), any(), any(), any());
            case 1 -> x.text(any());
            case 2 -> x.fault();
            case 3 -> x.move(any(), any(), any());
            case 4 -> x.turn(any(), any());
            case 5 -> x.undo();
            case 6 -> x.told(any());
            case 7 -> x.unit(any(), any());
            case 8 -> x.member(any(), any(), any());
            case 9 -> x.lazy(any());
            case 10 -> x.eager(any(), any());
            case 11 -> x.value(any(), any());
            case 12 -> x.state(any());
            case 13 -> x.begun(any());
            case 14 -> x.surprise(any(), any());
            case 15 -> x.trace(any(), any());
            case 16 -> x.broken(any(), any());
            case 17 -> x.alike(any());
            case 18 -> x.fewest(any());
            case 19 -> x.touches(any());
            case 20 -> x.reach(any());
            case 21 -> x.ring(any());
            case 22 -> x.least(any());
            case 23 -> x.breaks(any());
            case 24 -> x.print();
            default -> x.status(any());
        }
    }
}
