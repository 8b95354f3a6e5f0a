import java.lang.reflect.Method;
import java.util.ArrayList;
import java.util.List;

/** Towns with something of everything in them, calls by name, and all that can be seen of a town. */
final class Twins {
    /** How many people usual() has, ROWS, and bodies of THE TRACE. */
    static final int PEOPLE = 4, ROWS = 3, BODIES = 11;

    private Twins() {
    }

    static HeldTongues usual() {
        HeldTongues x = new HeldTongues();
        x.person(1, 40, 5, 6);
        x.person(2, 9, 0, 1);
        x.person(4, 12, 60, 5);
        x.person(5, 5, 0, 4);
        x.set(0, 4);
        x.pair(1, 0);
        x.days(3);
        x.keep();
        x.pair(3, 1);
        x.set(1, 2);
        x.days(2);
        x.seed(77);
        x.prove(1, ROWS);
        x.sheet(0, 0, 5);
        x.put(0, 1, 7);
        x.put(0, 4, -1);
        x.sheet(1, 2, 3);
        x.put(1, 2, 99);
        x.sheet(3, 3, 1);
        x.shelf(0, 0, 2);
        x.shelf(1, 1, 0);
        x.shelf(3, 1, 1);
        x.act(0, 3, 10);
        Due.feedAll(x, "monk;pri");
        return x;
    }

    /** Eight people, ten rows, and 200 bytes, whose fault is a ninth monk. */
    static HeldTongues full() {
        HeldTongues x = new HeldTongues();
        for (int i = 0; i < 8; i++) {
            x.person(i % 6, 99 - i, 99, 9);
        }
        x.pair(7, 0);
        x.keep();
        x.pair(1, 0);
        x.prove(7, 10);
        x.sheet(0, 0, 40);
        x.shelf(0, 0, 7);
        for (int i = 0; i < 25; i++) {
            x.feed(0x203b6b6e6f6d2020L, 8);
        }
        return x;
    }

    /** A call by its name; the tests' numbers are ints, whatever the face takes. */
    static long call(HeldTongues x, String name, int... args) {
        try {
            for (Method m : HeldTongues.class.getMethods()) {
                if (m.getName().equals(name)) {
                    Object[] given = new Object[args.length];
                    for (int i = 0; i < args.length; i++) {
                        given[i] = m.getParameterTypes()[i] == long.class ? (Object) (long) args[i] : (Object) args[i];
                    }
                    return ((Number) m.invoke(x, given)).longValue();
                }
            }
        } catch (ReflectiveOperationException e) {
            throw new IllegalStateException(name, e);
        }
        throw new IllegalStateException(name);
    }

    private static void lookAtTown(HeldTongues x, List<Integer> seen) {
        for (int law = 0; law < 4; law++) {
            seen.add(x.lawOf(law));
        }
        for (int what = 0; what < 6; what++) {
            seen.add(x.state(what));
        }
        int people = x.many(0);
        for (int i = 0; i < people * 6; i++) {
            seen.add(x.of(i / 6, i % 6));
        }
    }

    private static void lookAtThings(HeldTongues x, List<Integer> seen) {
        for (int what = 0; what < 7; what++) {
            seen.add(x.many(what));
        }
        int rows = x.many(4);
        for (int i = 0; i < rows * 3; i++) {
            seen.add(x.row(i / 3, i % 3));
        }
        int bodies = x.many(6);
        for (int i = 0; i < bodies; i++) {
            seen.add(x.trace(i));
        }
        for (int i = 0; i < 80; i++) {
            seen.add(x.item(i / 20, i / 5 % 4, i % 5));
        }
        int[] as = {0, 1, 2, 3, 4, 5, 10, 11, 12, 13};
        for (int i = 0; i < 40; i++) {
            seen.add(x.taken(i / 10, as[i % 10]));
        }
    }

    /** All that can be seen of a town; it is used up by that: z, THE TAPE and what is kept come last. */
    static List<Integer> allOf(HeldTongues x) {
        List<Integer> seen = new ArrayList<>();
        lookAtTown(x, seen);
        lookAtThings(x, seen);
        seen.add(x.seed(5));
        Due.feedAll(x, "or;");
        seen.add(x.town());
        lookAtTown(x, seen);
        seen.add(x.seed(6));
        seen.add(x.again());
        lookAtTown(x, seen);
        seen.add(x.seed(7));
        return seen;
    }
}
