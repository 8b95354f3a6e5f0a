/** The document's part 2, but for texts: what is asked of days to come, lots and draws. */
final class TriedSentences extends Asking {
    TriedSentences(Sentences doc) {
        super(doc);
    }

    @Override
    void askAll() {
        nothingChanges();
        untilThen();
        pairing();
        partnerFor();
        kindFor();
        voiceFor();
        best();
        firstOfTheBest();
        fits();
        lots();
        draws();
        dayByDraws();
        luck();
    }

    private void nothingChanges() {
        sentence("What is asked here is TRIED; nothing changes.");
        onlyAsks("sound", 60);
        onlyAsks("hush");
        onlyAsks("luck", 30);
        onlyAsks("best", 5);
        for (int person = 0; person < Twins.PEOPLE; person++) {
            onlyAsks("eased", person);
            onlyAsks("full", person);
            onlyAsks("partnerFor", person, 20);
            onlyAsks("kindFor", person, 20);
            onlyAsks("voiceFor", person, 20, 100);
            onlyAsks("bestOf", 5, person);
            onlyAsks("fits", 0, person, 0);
            onlyAsks("fits", 0, person, 1);
        }
        onlyAsks("odds", 8, 3, 0);
        onlyAsks("hope", 99, 1);
    }

    private void untilThen() {
        sentence("EASED: behind the fewest DAYS (0 to 60) NEED of one is 0 first.");
        int[][] needs = {{0, 0}, {1, 1}, {59, 59}, {60, 60}, {61, NONE}, {99, NONE}};
        for (int[] row : needs) {
            due("eased of " + row[0], stillWith(1, row[0], 1).eased(0), row[1]);
        }
        HeldTongues growing = new HeldTongues();
        growing.person(CITIZEN, 1, 0, 3);
        due("never 0 behind a day, though 0 before it is 3 more", growing.eased(0), NONE);
        growing.change(0, NEED, 0);
        due("0 now", growing.eased(0), 0);

        sentence("FULL: behind the fewest (0 to 60) it is 99 first.");
        int[][] fulls = {{99, 0}, {98, 1}, {40, 59}, {39, 60}, {38, NONE}, {0, NONE}};
        for (int[] row : fulls) {
            HeldTongues x = stillWith(1, row[0], 0);
            x.set(GROWTH, 1);
            due("full of " + row[0], x.full(0), row[1]);
        }
        HeldTongues loud = stillWith(1, 98, 1);
        loud.set(GROWTH, 9);
        due("99 within the day is not behind it", loud.full(0), NONE);

        sentence("HUSH: behind the fewest (0 to 60) NEED of all is 0 first.");
        due("hush of nobody", new HeldTongues().hush(), 0);
        for (int[] row : needs) {
            HeldTongues x = stillWith(2, 0, 1);
            x.change(1, NEED, row[0]);
            due("hush of 0 and " + row[0], x.hush(), row[1]);
        }
        HeldTongues turns = still();
        turns.set(LOUD, 0);
        turns.person(WIFE, 1, 0, 1);
        turns.person(WIFE, 0, 0, 1);
        turns.pair(0, 1);
        due("each is eased, by turns", turns.eased(0) * 10 + turns.eased(1), 10);
        due("but never all at once", turns.hush(), NONE);
    }

    private void pairing() {
        sentence("To PAIR two: they are PARTNERS then, who was PARTNER of either is ALONE; the first one SPEAKS.");
        HeldTongues x = stillWith(4, 9, 1);
        x.pair(0, 1);
        x.pair(2, 3);
        x.pair(3, 1);
        due("partner of the first", x.of(3, PARTNER), 2);
        due("partner of the second", x.of(1, PARTNER), 4);
        due("who was the first's is alone", x.of(2, PARTNER), 0);
        due("who was the second's is alone", x.of(0, PARTNER), 0);
        due("the first one speaks", x.state(SPEAKERS), 1 + 4 + 8);
        x.pair(1, 3);
        due("the other one first", x.state(SPEAKERS), 1 + 4 + 2);
        due("partners still", x.many(PAIRS), 1);
    }

    private void partnerFor() {
        sentence("PARTNER FOR one, n: the one with which, PAIRED now with it (it first), SOUND by n is most, "
                + "more than as it is; of several the least.");
        due("nobody else is there", stillWith(1, 99, 9).partnerFor(0, 1), NONE);
        HeldTongues x = stillWith(4, 0, 0);
        x.mind(1, CITIZEN, 9);
        due("with none it is more", x.partnerFor(1, 1), NONE);
        x.change(0, NEED, 18);
        x.change(2, NEED, 18);
        x.change(3, NEED, 18);
        due("of several the least", x.partnerFor(1, 1), 0);
        x.change(0, NEED, 17);
        due("the most", x.partnerFor(1, 1), 2);
        due("it speaks first", x.partnerFor(0, 1), NONE);
        due("its partner on the next day", x.partnerFor(0, 2), 1);
        x.pair(1, 3);
        due("as much as it is is not more", x.partnerFor(1, 1), NONE);
        x.pair(3, 1);
        due("of several the least, not the one it has", x.partnerFor(1, 1), 2);
        x.change(2, NEED, 0);
        due("the one it has, but first", x.partnerFor(1, 1), 3);
        HeldTongues now = stillWith(3, 0, 0);
        now.mind(0, CITIZEN, 9);
        now.change(0, NEED, 9);
        now.change(2, NEED, 9);
        due("each is tried from now", now.partnerFor(0, 1), 2);
        HeldTongues loss = stillWith(3, 99, 9);
        loss.change(1, NEED, 0);
        loss.pair(1, 2);
        // 9 and 18 are said; 0 with 1 would say 18, and 2 its own 9.
        due("what others lose counts", loss.partnerFor(0, 1), NONE);
    }

    private void kindFor() {
        sentence("KIND FOR one, n: the KIND as one of which SOUND by n is most; of several the least.");
        HeldTongues x = still();
        x.set(LOUD, 0);
        x.person(PRIOR, 0, 0, 0);
        due("all as much: the least, not the one it has", x.kindFor(0, 1), CITIZEN);
        x.mind(0, PRIOR, 1);
        due("wife, hawker and child as much", x.kindFor(0, 1), WIFE);
        x.change(0, SAVED, 99);
        x.change(0, NEED, 99);
        due("a prior by what it saved", x.kindFor(0, 1), PRIOR);
        x.change(0, SAVED, 19);
        due("a hawker says 2, a prior 1", x.kindFor(0, 1), HAWKER);
        x.set(QUIET, 0);
        x.change(0, SAVED, 10);
        due("both say 2", x.kindFor(0, 1), HAWKER);
    }

    private void voiceFor() {
        sentence("VOICE FOR one, n, v: the least VOICE (0 to 9) of it with which SOUND by n is v or more.");
        HeldTongues x = stillWith(2, 99, 5);
        int[][] rows = {{0, 0}, {5, 0}, {6, 1}, {13, 8}, {14, 9}, {15, NONE}, {9999, NONE}};
        for (int[] row : rows) {
            due("voice for " + row[0], x.voiceFor(0, 1, row[0]), row[1]);
        }
        due("v all that there is", stillWith(1, 99, 0).voiceFor(0, 20, 99), 5);
        due("v more than there is", stillWith(1, 99, 0).voiceFor(0, 20, 100), NONE);
    }

    private void best() {
        sentence("BEST by n: the most SOUND by n that can be, if all are PAIRED anew as one likes "
                + "(some ALONE, too; of each pair the lesser one SPEAKS first).");
        due("best of nobody", new HeldTongues().best(1), 0);
        due("best of one", stillWith(1, 99, 9).best(5), 45);
        HeldTongues x = stillWith(8, 99, 9);
        due("eight alone", x.best(1), 72);
        x.change(0, NEED, 0);
        due("one for another", x.best(1), 72);
        x.change(7, NEED, 0);
        x.mind(7, CITIZEN, 0);
        due("another for one", x.best(1), 72);
        due("whose turn it is then", x.best(2), 144 - 18);
        HeldTongues y = stillWith(2, 0, 0);
        y.mind(1, CITIZEN, 9);
        y.change(0, NEED, 99);
        y.pair(1, 0);
        due("as it is", y.sound(1), 18);
        due("anew the lesser one speaks first", y.best(1), 0);
        due("then the other", y.best(2), 18);
        HeldTongues late = still();
        late.days(1);
        late.person(CHILD, 99, 0, 9);
        due("from the DAY that it is", late.best(1), 1);
        due("and on", late.best(2), 10);
    }

    private void way(String name, HeldTongues x, int n, int... partners) {
        for (int i = 0; i < partners.length; i++) {
            due(name + ", partner of " + i, x.bestOf(n, i), partners[i]);
        }
    }

    private void firstOfTheBest() {
        sentence("Of several ways the FIRST: 0's PARTNER is ALONE rather than anybody, else the least; "
                + "then 1's; and so on.");
        way("one", stillWith(1, 9, 9), 1, 0);
        way("nothing to say", stillWith(8, 0, 9), 5, 0, 0, 0, 0, 0, 0, 0, 0);
        HeldTongues x = stillWith(4, 0, 0);
        x.mind(0, CITIZEN, 9);
        for (int i = 1; i < 4; i++) {
            x.change(i, NEED, 18);
        }
        way("0 with the least", x, 1, 2, 1, 0, 0);
        x.mind(1, CITIZEN, 9);
        x.change(1, NEED, 0);
        way("0 with the least, so 1 with another", x, 1, 3, 4, 1, 2);
        x.change(3, NEED, 0);
        way("0 alone, so 1 with 2", x, 1, 0, 3, 2, 0);
        HeldTongues y = stillWith(8, 0, 0);
        for (int i = 0; i < 4; i++) {
            y.mind(i, CITIZEN, 9);
            y.change(i + 4, NEED, 18);
        }
        way("four pairs", y, 1, 5, 6, 7, 8, 1, 2, 3, 4);
        y.change(4, NEED, 0);
        way("then 0 alone", y, 1, 0, 6, 7, 8, 0, 2, 3, 4);
    }

    private void fits() {
        sentence("FITS of one by a SHEET: those VOICES (0 to 9) of it now with which its NEED is, behind 1, 2, .. "
                + "DAYS, what the numbers of the SHEET tell, one by one (-1: any).");
        HeldTongues x = stillWith(1, 12, 7);
        x.sheet(0, 0, 0);
        fitting("no numbers", x, 10, 0);
        for (int sort = 0; sort < 4; sort++) {
            x.sheet(0, sort, 2);
            x.put(0, 1, -1);
            x.put(0, 0, -1);
            fitting("any", x, 10, 0);
            x.put(0, 0, 12);
            fitting("nothing said", x, 1, 0);
            x.put(0, 0, 3);
            fitting("all said", x, 1, 9);
            x.put(0, 0, 2);
            fitting("more than any VOICE says", x, 0, NONE);
            x.put(0, 0, -2);
            fitting("-2 is not any", x, 0, NONE);
            x.put(0, 0, -1);
            x.put(0, 1, 0);
            fitting("behind 2 days", x, 4, 6);
            x.put(0, 0, 6);
            fitting("one by one", x, 1, 6);
            x.put(0, 0, 7);
            fitting("one by one", x, 0, NONE);
        }
        x.sheet(0, 2, 1);
        x.put(0, 0, 256 + 12);
        fitting("not narrowed", x, 0, NONE);
        x.sheet(0, 0, 1);
        x.put(0, 0, 256 + 12);
        fitting("narrowed as it was put", x, 1, 0);
        x.put(0, 0, 255);
        fitting("narrowed to -1, any", x, 10, 0);
        x.sheet(0, 3, 40);
        for (int i = 0; i < 39; i++) {
            x.put(0, i, -1);
        }
        fitting("behind 40 days", x, 9, 1);
    }

    private void fitting(String name, HeldTongues x, int many, int least) {
        due(name + ": how many", x.fits(0, 0, 0), many);
        due(name + ": the least", x.fits(0, 0, 1), least);
    }

    private void odds(HeldTongues x, int n, int k, long above, long below) {
        due("odds " + n + " " + k + ", above", x.odds(n, k, 0), above);
        due("odds " + n + " " + k + ", below", x.odds(n, k, 1), below);
    }

    private void lots() {
        sentence("ODDS by n, k: that of n lots just k are drawn, each by LOT of a hundred.");
        HeldTongues x = new HeldTongues();
        odds(x, 0, 0, 1, 1);
        odds(x, 1, 0, 4, 5);
        odds(x, 1, 1, 1, 5);
        odds(x, 8, 0, 65536, 390625);
        odds(x, 8, 8, 1, 390625);
        x.set(LOT, 0);
        odds(x, 0, 0, 1, 1);
        odds(x, 8, 0, 1, 1);
        odds(x, 8, 1, 0, 1);
        odds(x, 8, 8, 0, 1);
        x.set(LOT, 99);
        odds(x, 1, 1, 99, 100);
        odds(x, 8, 0, 1, 10000000000000000L);
        odds(x, 8, 8, 9227446944279201L, 10000000000000000L);
        x.set(LOT, 50);
        odds(x, 8, 4, 35, 128);
        x.set(LOT, 51);
        odds(x, 8, 4, 70L * 6765201 * 5764801 / 10, 1000000000000000L);

        sentence("HOPE by n: how many are on average.");
        due("hope 0, above", x.hope(0, 0), 0);
        due("hope 0, below", x.hope(0, 1), 1);
        due("hope 99, above", x.hope(99, 0), 5049);
        due("hope 99, below", x.hope(99, 1), 100);
        x.set(LOT, 0);
        due("of nothing, above", x.hope(99, 0), 0);
        due("of nothing, below", x.hope(99, 1), 1);
    }

    private void draws() {
        sentence("DRAWS: z (an int; 1 at first) becomes z * 1103515245 + 12345; z >>> 16 is drawn.");
        due("z at first", new HeldTongues().seed(0), 1);
        HeldTongues x = stillWith(1, 0, 0);
        x.set(LOT, 0);
        x.day();
        due("two draws from 1; the second wraps", x.seed(1), -1770082073);
        x.set(LOT, 99);
        x.day();
        due("three draws from 1", x.seed(MOST), 662824084);
        x.set(LOT, 0);
        x.day();
        due("two draws from the most int", x.seed(LEAST), (int) wrapped(MOST));
        x.day();
        due("two draws from the least int", x.seed(0), (int) wrapped(LEAST));
        // What is drawn second from 1 is 38526, of a z below 0: with z >> 16 it were -27010.
        HeldTongues y = stillWith(3, 9, 1);
        y.set(LOT, 27);
        due("26 is below 27", y.day(), 3);
        due("third is 10113: 0 of three; first is 16838: 2", y.of(2, PARTNER), 1);
        // The next are 38526, 10113 and 50283: of four 2, 13 and 3; the first and the third of a z below 0.
        HeldTongues w = stillWith(4, 9, 1);
        w.set(LOT, 14);
        w.seed(1103527590);
        w.day();
        due("2 of four, with 3 of four", w.of(2, PARTNER), 4);
    }

    /** z behind two draws, in longs that are cut to 32 bits. */
    private static long wrapped(int seed) {
        long z = seed & 0xffffffffL;
        for (int i = 0; i < 2; i++) {
            z = (z * 1103515245L + 12345L) & 0xffffffffL;
        }
        return z;
    }

    private void dayByDraws() {
        sentence("A DAY BY DRAWS: if there are PEOPLE, a draw: the one that it leaves by how many there are; and one "
                + "more: if what that leaves by 100 is below LOT, that one is PAIRED with the one that a third draw "
                + "leaves by how many there are (if that is the same one, it is ALONE then, and so is who was its "
                + "PARTNER); then a DAY.");
        HeldTongues nobody = new HeldTongues();
        due("a day of nobody", nobody.day(), 0);
        due("draws nothing", nobody.seed(0), 1);
        due("but is a DAY", nobody.state(DAY), 1);
        HeldTongues one = stillWith(1, 9, 2);
        one.set(LOT, 99);
        due("one with itself stays alone", one.day(), 2);
        due("alone", one.of(0, PARTNER) * 10 + one.of(0, SPEAKS), 1);
        // From 1 the draws are 16838, 38526 and 10113: of five 3, 26 and 3; of eight 6, 26 and 1.
        HeldTongues five = stillWith(5, 9, 1);
        five.pair(0, 3);
        five.set(LOT, 26);
        due("26 is not below 26", five.day(), 5);
        due("so they are partners still", five.many(PAIRS), 1);
        five.seed(1);
        five.set(LOT, 27);
        due("the same one: alone", five.day(), 5);
        due("and so is who was its partner", five.many(PAIRS) * 100 + five.state(SPEAKERS), 31);
        HeldTongues eight = stillWith(8, 9, 1);
        eight.pair(6, 0);
        eight.pair(1, 7);
        eight.set(LOT, 27);
        due("it says twice 1 in the DAY then", eight.day(), 8);
        due("the first is paired", eight.of(6, PARTNER), 2);
        due("with the third", eight.of(1, PARTNER), 7);
        due("partners of either are alone", eight.of(0, PARTNER) + eight.of(7, PARTNER), 0);
        due("the first one spoke", eight.of(6, SPEAKS) * 10 + eight.of(1, SPEAKS), 1);
        due("a DAY", eight.state(DAY), 1);
        due("three draws", eight.seed(1), 662824084);
        eight.set(LOT, 0);
        eight.day();
        due("two draws without a lot", eight.seed(1), -1770082073);
    }

    private void luck() {
        sentence("LUCK: in how many of n DAYS BY DRAWS, each tried from how all is now (z alone goes on), "
                + "more is said than SOUND by 1 (nothing changes, z neither).");
        due("of nobody", new HeldTongues().luck(30), 0);
        HeldTongues one = stillWith(1, 9, 2);
        one.set(LOT, 99);
        due("as much is not more", one.luck(30), 0);
        HeldTongues x = stillWith(2, 0, 9);
        x.change(0, NEED, 99);
        x.set(LOT, 99);
        // 9 is said; paired, 18. From 1 there is a lot and the pair is 0 and 1.
        due("more in the first", x.luck(1), 1);
        due("nothing changes", x.many(PAIRS) + x.state(DAY) + x.state(HEARD), 0);
        due("z neither", x.seed(1), 1);
        int lucky = 0;
        int z = 1;
        for (int n = 1; n <= 30; n++) {
            int[] drawn = new int[3];
            for (int i = 0; i < 3; i++) {
                z = (int) ((z & 0xffffffffL) * 1103515245L + 12345L);
                drawn[i] = (int) ((z & 0xffffffffL) / 65536);
                if (i == 1 && drawn[1] % 100 == 99) {
                    drawn[2] = drawn[0];
                    break;
                }
            }
            lucky += drawn[0] % 2 != drawn[2] % 2 ? 1 : 0;
            due("z goes on in " + n, x.luck(n), lucky);
        }
        x.set(LOT, 0);
        due("without lots", x.luck(30), 0);
        x.pair(0, 1);
        x.set(LOT, 99);
        due("each from how all is now: 18 is not more than 18", x.luck(30), 0);
    }
}
