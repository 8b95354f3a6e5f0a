import java.lang.reflect.Method;
import java.lang.reflect.Modifier;
import java.util.ArrayList;
import java.util.Arrays;
import java.util.Comparator;
import java.util.List;
import java.util.Random;

/**
 * Long runs of drawn calls on HeldTongues and on PlainTown: every answer must be the same, and no
 * call may throw. The draws have fixed seeds, so a failure comes again.
 */
public final class ModelTest {
    private static final int RUNS = 1500;
    private static final int CALLS = 512;
    /** feed() 25 times, town(), and what sameTown() asks. */
    private static final int CALLS_OF_A_TEXT = 92;
    private static final int MOST_SHOWN = 10;
    private static final int[] ODD = {-1, -2, 4, 5, 6, 7, 8, 9, 10, 20, 21, 40, 41, 60, 61, 99, 100, 128, 255,
        Integer.MAX_VALUE, Integer.MIN_VALUE};

    /** The least and the most of each parameter, as the document has them. */
    private static final String[] RANGES = {
        "set 0 3 0 9", "lawOf 0 3", "person 0 5 0 99 0 99 0 9", "of 0 7 0 5", "does 0 7 0 2",
        "mind 0 7 0 5 0 9", "change 0 7 1 2 0 99", "pair 0 7 0 7", "leave 0 7", "spend 0 7", "days 1 9",
        "seed -9 9", "day", "luck 1 30", "state 0 5", "sound 0 60", "eased 0 7", "full 0 7", "hush",
        "partnerFor 0 7 1 20", "kindFor 0 7 1 20", "voiceFor 0 7 1 20 0 300", "best 1 5", "bestOf 1 5 0 7",
        "fits 0 3 0 7 0 1", "odds 0 8 0 8 0 1", "hope 0 99 0 1", "prove 0 7 1 10", "row 0 9 0 2",
        "alterRow 0 9 0 2 0 99", "judge 0 7", "minds 0 3 0 5 0 7 0 4", "sheet 0 3 -1 3 0 9",
        "put 0 3 0 8 -1 99", "item 0 3 0 3 0 8", "shelf 0 3 0 2 0 7", "taken 0 3 0 13", "act 0 3 0 3 -50 50",
        "trace 0 12", "many 0 6", "keep", "again"};

    private final Random random;
    private HeldTongues real = new HeldTongues();
    private PlainTown plain = new PlainTown();
    private final List<String> calls = new ArrayList<>();
    private int wrong;

    private ModelTest(long seed) {
        random = new Random(seed);
    }

    private static Method methodOf(Class<?> owner, String name) {
        return Arrays.stream(owner.getDeclaredMethods())
                .filter(m -> m.getName().equals(name) && !Modifier.isStatic(m.getModifiers())
                        && !Modifier.isPrivate(m.getModifiers()))
                .min(Comparator.comparingInt(Method::getParameterCount)).get();
    }

    private boolean same(String name, Object... args) throws ReflectiveOperationException {
        calls.add(name + Arrays.toString(args));
        Object got = methodOf(HeldTongues.class, name).invoke(real, args);
        Object want = methodOf(PlainTown.class, name).invoke(plain, args);
        if (got.equals(want)) {
            return true;
        }
        wrong++;
        System.out.println(calls + " answered " + got + ", due is " + want);
        return false;
    }

    private int number(int least, int most) {
        switch (random.nextInt(30)) {
            case 0: return ODD[random.nextInt(ODD.length)];
            case 1: return most + 1;
            case 2: return most;
            case 3: return least;
            default: return least + random.nextInt(most - least + 1);
        }
    }

    private boolean drawnCall() throws ReflectiveOperationException {
        String[] range = RANGES[random.nextInt(RANGES.length)].split(" ");
        Object[] args = new Object[range.length / 2];
        for (int i = 0; i < args.length; i++) {
            args[i] = number(Integer.parseInt(range[1 + 2 * i]), Integer.parseInt(range[2 + 2 * i]));
        }
        return same(range[0], args);
    }

    /** Half of the runs have all eight, many of them full, so that little is refused. */
    private boolean settle() throws ReflectiveOperationException {
        int people = random.nextBoolean() ? 8 : random.nextInt(8);
        boolean right = true;
        for (int i = 0; i < people && right; i++) {
            right = same("person", random.nextInt(6), random.nextInt(100), random.nextInt(100), random.nextInt(10));
        }
        for (int law = 0; law < 4 && right; law++) {
            right = same("set", law, random.nextInt(law == 3 ? 100 : 10));
        }
        return right;
    }

    private boolean run() throws ReflectiveOperationException {
        boolean right = settle();
        while (calls.size() < CALLS && right) {
            if (random.nextInt(60) == 0 && calls.size() + CALLS_OF_A_TEXT <= CALLS) {
                right = feedAndTown();
            } else {
                right = drawnCall();
            }
        }
        return right;
    }

    // ---- texts

    private String drawnText() {
        StringBuilder text = new StringBuilder();
        int sentences = random.nextInt(11);
        for (int i = 0; i < sentences; i++) {
            text.append(drawnSentence());
        }
        int slips = random.nextInt(3);
        for (int i = 0; i < slips && text.length() > 0; i++) {
            slip(text);
        }
        return text.length() > 200 ? text.substring(0, 200) : text.toString();
    }

    private String drawnSentence() {
        String[] kinds = {"citizen", "wife", "monk", "hawker", "prior", "child"};
        String[] laws = {"loud", "quiet", "growth"};
        switch (random.nextInt(6)) {
            case 0: return blanks() + "pair " + random.nextInt(4) + " with " + random.nextInt(4) + blanks() + ";";
            case 1: return laws[random.nextInt(3)] + " " + random.nextInt(11) + ";";
            case 2: return "lot " + random.nextInt(101) + blanks() + ";";
            default: return blanks() + kinds[random.nextInt(6)] + option("need", 101) + option("saved", 101)
                    + option("voice", 10) + blanks() + ";";
        }
    }

    private String option(String name, int bound) {
        if (random.nextInt(3) > 0) {
            return "";
        }
        String zeros = random.nextInt(9) == 0 ? "00" : "";
        return " " + name + blanks() + zeros + random.nextInt(bound);
    }

    private String blanks() {
        return "   ".substring(random.nextInt(4));
    }

    private void slip(StringBuilder text) {
        int place = random.nextInt(text.length());
        String signs = " ;;09az-\n\u0000\u00e9{|";
        switch (random.nextInt(3)) {
            case 0: text.deleteCharAt(place); break;
            case 1: text.insert(place, signs.charAt(random.nextInt(signs.length()))); break;
            default: text.setCharAt(place, signs.charAt(random.nextInt(signs.length())));
        }
    }

    private boolean feedAndTown() throws ReflectiveOperationException {
        String text = drawnText();
        boolean right = true;
        for (int i = 0; i < text.length() && right; i += 8) {
            long eight = random.nextLong();
            int n = Math.min(8, text.length() - i);
            for (int k = 0; k < n; k++) {
                eight = eight & ~(255L << (8 * k)) | (long) text.charAt(i + k) << (8 * k);
            }
            right = same("feed", eight, n);
        }
        return right && same("town") && sameTown();
    }

    private boolean sameTown() throws ReflectiveOperationException {
        boolean right = true;
        for (int law = 0; law < 4 && right; law++) {
            right = same("lawOf", law);
        }
        for (int i = 0; i < 48 && right; i++) {
            right = same("of", i / 6, i % 6);
        }
        for (int what = 0; what < 7 && right; what++) {
            right = same("many", what) && same("state", what);
        }
        return right;
    }

    private boolean texts() throws ReflectiveOperationException {
        boolean right = true;
        while (calls.size() + CALLS_OF_A_TEXT <= CALLS && right) {
            right = feedAndTown();
        }
        return right;
    }

    public static void main(String[] args) throws ReflectiveOperationException {
        int wrong = 0;
        long asked = 0;
        for (int seed = 0; seed < RUNS && wrong < MOST_SHOWN; seed++) {
            ModelTest test = new ModelTest(seed);
            boolean right = seed % 3 == 0 ? test.texts() : test.run();
            wrong += right ? 0 : 1;
            asked += test.calls.size();
        }
        System.out.println(asked + " asked, " + wrong + " runs wrong");
        if (wrong != 0) {
            System.exit(1);
        }
    }
}
