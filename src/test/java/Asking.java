import java.util.Arrays;
import java.util.List;
import java.util.function.Supplier;

/** What the tests of the document's sentences have in common. */
abstract class Asking {
    static final int BAD = -1, FULL = -2, NONE = -3, NO_ROW = -9;
    static final int NOTHING = -11, OUTSIDE = -12, ANOTHER = -13, BELOW_ZERO = -14, BY_ZERO = -15;
    static final int CITIZEN = 0, WIFE = 1, MONK = 2, HAWKER = 3, PRIOR = 4, CHILD = 5;
    static final int LOUD = 0, QUIET = 1, GROWTH = 2, LOT = 3;
    static final int KIND = 0, NEED = 1, SAVED = 2, VOICE = 3, PARTNER = 4, SPEAKS = 5;
    static final int SAYS = 0, GROWS = 1, SAVES = 2;
    static final int DAY = 0, HEARD = 1, GEESE = 2, ALL_NEED = 3, ALL_SAVED = 4, SPEAKERS = 5;
    static final int PEOPLE = 0, PAIRS = 1, SPEAKING = 2, FULL_ONES = 3, ROWS = 4, BYTES = 5, BODIES = 6;
    static final int LEAST = Integer.MIN_VALUE, MOST = Integer.MAX_VALUE;

    private final Sentences doc;

    Asking(Sentences doc) {
        this.doc = doc;
    }

    abstract void askAll();

    void sentence(String quote) {
        doc.sentence(quote);
    }

    void due(String call, long got, long want) {
        doc.due(call, got, want);
    }

    /** Need of citizens doesn't grow here, so that what is said can be counted by hand. */
    static HeldTongues still() {
        HeldTongues x = new HeldTongues();
        x.set(GROWTH, 0);
        return x;
    }

    /** So many citizens of a NEED and a VOICE, ALONE, whose NEED doesn't grow. */
    static HeldTongues stillWith(int count, int need, int voice) {
        HeldTongues x = still();
        for (int i = 0; i < count; i++) {
            x.person(CITIZEN, need, 0, voice);
        }
        return x;
    }

    private static int firstUnlike(List<Integer> one, List<Integer> other) {
        for (int i = 0; i < Math.min(one.size(), other.size()); i++) {
            if (!one.get(i).equals(other.get(i))) {
                return i;
            }
        }
        return one.size() == other.size() ? -1 : Math.min(one.size(), other.size());
    }

    /** The call is answered so, and all is as in a twin that wasn't asked. */
    void changesNothing(Supplier<HeldTongues> scene, long answer, String name, int... args) {
        String call = name + Arrays.toString(args);
        HeldTongues asked = scene.get();
        due(call, Twins.call(asked, name, args), answer);
        due(call + " changes", firstUnlike(Twins.allOf(asked), Twins.allOf(scene.get())), -1);
    }

    void refused(int answer, String name, int... args) {
        changesNothing(Twins::usual, answer, name, args);
    }

    /** A question that is answered, twice the same, and all is as in a twin that wasn't asked. */
    void onlyAsks(String name, int... args) {
        long answer = Twins.call(Twins.usual(), name, args);
        changesNothing(Twins::usual, answer, name, args);
    }

    /**
     * Each number in turn is just too small, just too large, the least and the most int, while the
     * others are their least; and what is just not too small or too large is not refused.
     */
    void ranges(int answer, String name, int... leastAndMost) {
        int count = leastAndMost.length / 2;
        for (int i = 0; i < count; i++) {
            int least = leastAndMost[2 * i];
            int most = leastAndMost[2 * i + 1];
            for (int wrong : new int[] {least - 1, most + 1, LEAST, MOST}) {
                refused(answer, name, leastBut(leastAndMost, i, wrong));
            }
            for (int right : new int[] {least, most}) {
                int[] args = leastBut(leastAndMost, i, right);
                boolean taken = Twins.call(Twins.usual(), name, args) != answer;
                due(name + Arrays.toString(args) + " is taken", taken ? 1 : 0, 1);
            }
        }
    }

    private static int[] leastBut(int[] leastAndMost, int place, int v) {
        int[] args = new int[leastAndMost.length / 2];
        for (int i = 0; i < args.length; i++) {
            args[i] = i == place ? v : leastAndMost[2 * i];
        }
        return args;
    }
}
