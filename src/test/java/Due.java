/** Counts and prints the answers that are not the ones that are due. */
final class Due {
    private int wrong;
    private int asked;

    void due(String call, long got, long want) {
        asked++;
        if (got != want) {
            wrong++;
            System.out.println(call + " answered " + got + ", due is " + want);
        }
    }

    void holds(String what, boolean holds) {
        due(what, holds ? 1 : 0, 1);
    }

    int asked() {
        return asked;
    }

    /** The answer of town() to a text. */
    static int tell(HeldTongues x, String text) {
        feedAll(x, text);
        return x.town();
    }

    static void feedAll(HeldTongues x, String text) {
        for (int i = 0; i < text.length(); i++) {
            x.feed(text.charAt(i), 1);
        }
    }

    void end() {
        System.out.println(asked + " asked, " + wrong + " wrong");
        if (wrong != 0) {
            System.exit(1);
        }
    }
}
