/** The document's part 3: rows of days, acts of things, sheets and shelves. */
final class ThingSentences extends Asking {
    private static final int MUTTERS = 0, SAYS_IT = 1, PARTS = 2, SHOUTS = 3;

    ThingSentences(Sentences doc) {
        super(doc);
    }

    @Override
    void askAll() {
        rows();
        reader();
        acts();
        citizen();
        wifeAndMonk();
        prior();
        hawkerAndChild();
        trace();
        sheets();
        shelves();
    }

    private void rows() {
        sentence("ROWS of one: (NEED, SAVED, how much was said in that DAY by all) behind 1, 2, .. n DAYS, tried.");
        HeldTongues x = stillWith(3, 10, 2);
        x.pair(0, 1);
        x.prove(1, 10);
        // 0 says 4 of its own, and 1 saves 1; then 1 says 4 of its own; and so on; 2 says 2 a day.
        int[][] want = {{9, 1, 6}, {5, 1, 6}, {4, 2, 6}, {0, 2, 6}, {0, 2, 2}, {0, 2, 0}};
        for (int i = 0; i < want.length * 3; i++) {
            due("row " + i / 3 + " " + i % 3, x.row(i / 3, i % 3), want[i / 3][i % 3]);
        }
        due("the last", x.row(9, 1), 2);
        due("tried", x.state(DAY) + x.state(HEARD), 0);
        HeldTongues all = Twins.usual();
        HeldTongues days = Twins.usual();
        due("ten rows", all.prove(3, 10), 10);
        for (int i = 0; i < 10; i++) {
            int heard = days.state(HEARD);
            due("said on day " + i, all.row(i, 2), days.days(1) - heard);
            due("NEED behind day " + i, all.row(i, 0), days.of(3, NEED));
            due("SAVED behind day " + i, all.row(i, 1), days.of(3, SAVED));
        }
    }

    private void reader() {
        sentence("THE READER takes ROWS as those of one, from how it is now: right is one that is as it must be.");
        HeldTongues x = stillWith(2, 9, 1);
        x.change(1, NEED, 8);
        x.prove(0, 2);
        due("right of the one", x.judge(0), 0);
        due("not of another", x.judge(1), 1);
        x.days(1);
        due("not from now", x.judge(0), 1);
        x.prove(0, 2);
        due("right from now", x.judge(0), 0);
        x.alterRow(1, 2, LEAST);
        due("the last is wrong", x.judge(0), 2);
        x.alterRow(1, 2, 2);
        due("right again", x.judge(0), 0);
        x.mind(1, CITIZEN, 0);
        due("by how all is now", x.judge(0), 1);
    }

    /** One of a KIND, whose number is n, with VOICE a, on shelf 0. */
    private static HeldTongues actor(int kind, int n, int a) {
        HeldTongues x = new HeldTongues();
        for (int i = 0; i < n; i++) {
            x.person(CITIZEN, 0, 0, 0);
        }
        x.person(kind, 0, 0, a);
        x.shelf(0, 0, n);
        return x;
    }

    private void acted(HeldTongues x, int act, int given, int want, int... bodies) {
        String name = "act " + act + " of " + given;
        due(name, x.act(0, act, given), want);
        due(name + ", how many bodies", x.many(BODIES), bodies.length);
        for (int i = 0; i < bodies.length; i++) {
            due(name + ", body " + i, x.trace(i), bodies[i]);
        }
        due(name + ", no body more", x.trace(bodies.length), NONE);
    }

    private void acts() {
        sentence("ACTS of things, with a number x (ints that wrap): 0 mutters, 1 says, 2 parts, 3 shouts.");
        HeldTongues x = actor(CITIZEN, 1, 3);
        acted(x, 0, 4, 10, 10);
        acted(x, 1, 4, 23, 11, 10);
        acted(x, 2, 4, 2, 12);
        acted(x, 3, 4, 23 ^ 60, 13, 11, 10);
        acted(x, 0, MOST, LEAST + 5, 10);
        acted(x, 0, LEAST, LEAST + 6, 10);
        for (int wrong : new int[] {-1, 4, LEAST, MOST}) {
            acted(x, wrong, 4, 0);
        }

        sentence("One of PEOPLE is held as a thing of the KIND; n: the number, a: VOICE.");
        acted(actor(CITIZEN, 0, 0), SAYS_IT, 0, 0, 11, 10);
        acted(actor(CITIZEN, 0, 9), SAYS_IT, 0, 9, 11, 10);
        acted(actor(CITIZEN, 7, 9), SAYS_IT, 0, 93, 11, 10);
        HeldTongues changed = actor(WIFE, 1, 2);
        changed.mind(1, MONK, 5);
        acted(changed, SAYS_IT, 0, -7, 11, 30, 10);
    }

    private void citizen() {
        sentence("BODIES, each with its number: citizen: 10 mutters: x + n * 6.");
        acted(actor(CITIZEN, 0, 9), MUTTERS, -5, -5, 10);
        acted(actor(CITIZEN, 7, 9), MUTTERS, -5, 37, 10);
        acted(actor(CITIZEN, 7, 9), MUTTERS, MOST, LEAST + 41, 10);
        acted(actor(WIFE, 7, 9), MUTTERS, -5, 37, 10);
        acted(actor(CHILD, 7, 9), MUTTERS, -5, 37, 10);

        sentence("11 says: mutters(x) * 2 + a.");
        acted(actor(CITIZEN, 1, 9), SAYS_IT, -10, 1, 11, 10);
        acted(actor(CITIZEN, 0, 9), SAYS_IT, MOST, 7, 11, 10);
        acted(actor(CITIZEN, 0, 9), SAYS_IT, 0x40000000, LEAST + 9, 11, 10);
        acted(actor(CHILD, 0, 9), SAYS_IT, 0x40000000, LEAST + 9, 11, 10);
        acted(actor(MONK, 1, 9), SAYS_IT, -10, 17, 11, 30, 10);

        sentence("12 parts: x by (a - n), cut (-15 if these are the same; that is all that act() answers then).");
        acted(actor(CITIZEN, 0, 9), PARTS, -17, -1, 12);
        acted(actor(CITIZEN, 0, 9), PARTS, -18, -2, 12);
        acted(actor(CITIZEN, 7, 0), PARTS, 13, -1, 12);
        acted(actor(CITIZEN, 7, 0), PARTS, -14, 2, 12);
        acted(actor(CITIZEN, 1, 0), PARTS, LEAST, LEAST, 12);
        acted(actor(CITIZEN, 0, 1), PARTS, LEAST, LEAST, 12);
        acted(actor(CITIZEN, 0, 0), PARTS, 5, BY_ZERO, 12);
        acted(actor(CITIZEN, 0, 0), PARTS, 0, BY_ZERO, 12);
        acted(actor(CITIZEN, 7, 7), PARTS, 5, BY_ZERO, 12);
        acted(actor(WIFE, 7, 7), PARTS, 5, BY_ZERO, 12);
        acted(actor(MONK, 7, 7), PARTS, 5, BY_ZERO, 12);
        partedByZero();

        sentence("13 shouts: says(x) ^ 60.");
        acted(actor(CITIZEN, 0, 0), SHOUTS, 0, 60, 13, 11, 10);
        acted(actor(CITIZEN, 0, 0), SHOUTS, 30, 0, 13, 11, 10);
        acted(actor(CITIZEN, 0, 1), SHOUTS, -1, -1 ^ 60, 13, 11, 10);
        acted(actor(CITIZEN, 0, 0), SHOUTS, LEAST, 60, 13, 11, 10);
        acted(actor(WIFE, 0, 1), SHOUTS, 10, 63 ^ 60, 13, 20, 11, 10);
    }

    private void wifeAndMonk() {
        sentence("wife: 20 says: super.says(x) * 3.");
        acted(actor(WIFE, 1, 2), SAYS_IT, 1, 48, 20, 11, 10);
        acted(actor(WIFE, 0, 0), SAYS_IT, 0x20000000, -0x40000000, 20, 11, 10);

        sentence("monk: 30 mutters: 0 - super.mutters(x).");
        acted(actor(MONK, 1, 2), MUTTERS, 1, -7, 30, 10);
        acted(actor(MONK, 0, 2), MUTTERS, 0, 0, 30, 10);
        acted(actor(MONK, 0, 2), MUTTERS, LEAST, LEAST, 30, 10);

        sentence("31 shouts: super.shouts(x) + parts(n).");
        acted(actor(MONK, 0, 1), SHOUTS, LEAST, 61, 31, 13, 11, 30, 10, 12);
        acted(actor(MONK, 2, 3), SHOUTS, -0x3fffffe0 - 12, LEAST + 1, 31, 13, 11, 30, 10, 12);
        acted(actor(MONK, 3, 2), SHOUTS, 0, (-34 ^ 60) - 3, 31, 13, 11, 30, 10, 12);
        acted(actor(MONK, 3, 3), SHOUTS, 0, BY_ZERO, 31, 13, 11, 30, 10, 12);
    }

    private void prior() {
        sentence("prior: 40 mutters: super.mutters(x) - 5.");
        acted(actor(PRIOR, 0, 9), MUTTERS, 0, -5, 40, 30, 10);
        acted(actor(PRIOR, 1, 9), MUTTERS, 1, -12, 40, 30, 10);
        acted(actor(PRIOR, 0, 9), MUTTERS, LEAST, MOST - 4, 40, 30, 10);

        sentence("41 says: super.says(x) ^ mutters(a).");
        acted(actor(PRIOR, 0, 0), SAYS_IT, 0, 13, 41, 11, 40, 30, 10, 40, 30, 10);
        acted(actor(PRIOR, 1, 9), SAYS_IT, 1, -15 ^ -20, 41, 11, 40, 30, 10, 40, 30, 10);
        acted(actor(PRIOR, 0, 1), SHOUTS, 0, -9 ^ -6 ^ 60, 31, 13, 41, 11, 40, 30, 10, 40, 30, 10, 12);
    }

    private void hawkerAndChild() {
        sentence("hawker: 50 parts: super.parts(x * 2) + n.");
        acted(actor(HAWKER, 1, 3), PARTS, 5, 6, 50, 12);
        acted(actor(HAWKER, 1, 4), PARTS, -4, -1, 50, 12);
        acted(actor(HAWKER, 1, 0), PARTS, 0x40000000, LEAST + 1, 50, 12);
        acted(actor(HAWKER, 0, 1), PARTS, MOST, -2, 50, 12);
        acted(actor(HAWKER, 7, 8), PARTS, 0x3fffffff, LEAST + 5, 50, 12);
        acted(actor(HAWKER, 7, 7), PARTS, 5, BY_ZERO, 50, 12);

        sentence("51 mutters: super.mutters(x) + 7.");
        acted(actor(HAWKER, 1, 3), MUTTERS, 1, 14, 51, 10);
        acted(actor(HAWKER, 0, 3), MUTTERS, MOST, LEAST + 6, 51, 10);
        acted(actor(HAWKER, 0, 3), SAYS_IT, 1, 57, 20, 11, 51, 10);
        acted(actor(HAWKER, 0, 3), SHOUTS, 1, 57 ^ 60, 13, 20, 11, 51, 10);

        sentence("child: 60 shouts: 9 - super.shouts(x).");
        acted(actor(CHILD, 0, 0), SHOUTS, 0, -51, 60, 13, 11, 10);
        acted(actor(CHILD, 0, 0), SHOUTS, 0x4000001e, LEAST + 9, 60, 13, 11, 10);
        acted(actor(CHILD, 7, 7), SHOUTS, -42, 9 - (7 ^ 60), 60, 13, 11, 10);

        sentence("61 parts: super.parts(x) + mutters(n).");
        acted(actor(CHILD, 1, 3), PARTS, 5, 9, 61, 12, 10);
        acted(actor(CHILD, 1, 2), PARTS, MOST, LEAST + 6, 61, 12, 10);
        acted(actor(CHILD, 1, 1), PARTS, MOST, BY_ZERO, 61, 12);
    }

    private void partedByZero() {
        HeldTongues x = actor(MONK, 1, 1);
        for (int act = 0; act < 4; act++) {
            due("a monk's act " + act + " by 0", x.act(0, act, 0) == BY_ZERO ? 1 : 0, act < 2 ? 0 : 1);
        }
        due("behind that all is as it was", x.act(0, MUTTERS, 0), -6);
        x.mind(1, MONK, 2);
        due("with another VOICE it parts", x.act(0, PARTS, 7), 7);
    }

    private void trace() {
        sentence("THE TRACE: numbers of the bodies that ran in the latest act(), as they began (left first); "
                + "the first 30 are kept.");
        HeldTongues x = actor(PRIOR, 0, 1);
        due("none at first", x.many(BODIES), 0);
        due("none at first", x.trace(0), NONE);
        acted(x, SHOUTS, 1, -11 ^ -6 ^ 60, 31, 13, 41, 11, 40, 30, 10, 40, 30, 10, 12);
        acted(x, MUTTERS, 1, -6, 40, 30, 10);
        acted(x, PARTS, 1, 1, 12);
        due("the 30th of less", x.trace(29), NONE);
        due("behind the 30th", x.trace(30), NONE);
        x.days(1);
        x.shelf(0, 2, 0);
        due("of the latest act, whatever came then", x.trace(0), 12);
        acted(x, PARTS, 1, 0);
    }

    private void kept(int sort, int given, int then) {
        HeldTongues x = new HeldTongues();
        x.sheet(0, sort, 1);
        x.put(0, 0, given);
        due(given + " in sort " + sort, x.item(0, sort, 0), then);
    }

    private void sheets() {
        sentence("SHEETS 0 to 3 are rows of bytes (sort 0), shorts (1), ints (2) or longs (3), 40 at most, "
                + "or missing (at first).");
        HeldTongues x = new HeldTongues();
        for (int sheet = 0; sheet < 4; sheet++) {
            due("missing at first", x.put(sheet, 0, 1), NOTHING);
            due("40 items", x.sheet(sheet, sheet, 40), 1);
            due("41 items", x.sheet(sheet, sheet, 41), BAD);
            due("the last", x.put(sheet, 39, sheet + 1), 1);
            due("behind the last", x.put(sheet, 40, 1), OUTSIDE);
        }
        for (int sheet = 0; sheet < 4; sheet++) {
            due("each has its own", x.item(sheet, sheet, 39), sheet + 1);
        }
        due("no sheet -1", x.sheet(-1, 0, 1), BAD);
        due("no sheet 4", x.sheet(4, 0, 1), BAD);
        int[][] bytes = {{127, 127}, {128, -128}, {-128, -128}, {-129, 127}, {255, -1}, {256, 0}, {MOST, -1}, {LEAST, 0}};
        for (int[] row : bytes) {
            kept(0, row[0], row[1]);
        }
        int[][] shorts = {{32767, 32767}, {32768, -32768}, {-32768, -32768}, {-32769, 32767}, {65535, -1}, {65536, 0},
            {MOST, -1}, {LEAST, 0}};
        for (int[] row : shorts) {
            kept(1, row[0], row[1]);
        }
        for (int sort = 2; sort < 4; sort++) {
            for (int v : new int[] {0, -1, 65536, MOST, LEAST}) {
                kept(sort, v, v);
            }
        }
    }

    private void shelves() {
        sentence("SHELVES 0 to 3 hold one of PEOPLE (by its number; nothing, if there is no such one at the time), "
                + "a SHEET's row, or nothing (at first).");
        HeldTongues x = new HeldTongues();
        for (int shelf = 0; shelf < 4; shelf++) {
            due("nothing at first", x.taken(shelf, CITIZEN), NOTHING);
            due("nothing at first", x.taken(shelf, 10), NOTHING);
        }
        Due.tell(x, "monk;wife;");
        for (int shelf = 0; shelf < 4; shelf++) {
            due("nothing still, whoever came", x.taken(shelf, CITIZEN), NOTHING);
            due("nothing acts", x.act(shelf, MUTTERS, 1), 0);
        }
        x.keep();
        x.sheet(0, 1, 7);
        x.shelf(0, 0, 1);
        x.shelf(1, 0, 0);
        x.shelf(2, 1, 0);
        due("one of PEOPLE", x.taken(0, WIFE), 1);
        due("one of PEOPLE", x.taken(1, MONK), 0);
        due("a row", x.taken(2, 11), 7);
        due("nothing", x.taken(3, 11), NOTHING);
        Due.tell(x, "child;");
        due("no such one at the time", x.taken(0, CITIZEN), NOTHING);
        due("no such one at the time", x.taken(0, 10), NOTHING);
        due("no such one acts", x.act(0, MUTTERS, 1), 0);
        due("by its number", x.taken(1, CHILD), 0);
        due("the row stays", x.taken(2, 11), 7);
        x.person(PRIOR, 0, 0, 0);
        due("there is such a one again", x.taken(0, PRIOR), 1);
        x.again();
        due("and as it was kept", x.taken(0, WIFE), 1);
        x.town();
        due("nobody at all", x.taken(0, CITIZEN), NOTHING);
        due("nobody at all", x.taken(1, CITIZEN), NOTHING);
        x.sheet(0, -1, 0);
        due("the row itself is held", x.taken(2, 11), 7);
    }
}
