/** The promises' own words, with what each refuses and what it just doesn't. */
final class PromiseSentences extends Asking {
    private static final int LAST = Twins.PEOPLE - 1;

    PromiseSentences(Sentences doc) {
        super(doc);
    }

    @Override
    void askAll() {
        newObject();
        feed();
        town();
        laws();
        person();
        of();
        does();
        mind();
        change();
        pair();
        leave();
        spend();
        days();
        seed();
        day();
        luck();
        state();
        sound();
        eased();
        full();
        hush();
        partnerFor();
        kindFor();
        voiceFor();
        best();
        bestOf();
        fits();
        odds();
        hope();
        prove();
        row();
        alterRow();
        judge();
        minds();
        mindsOutside();
        sheet();
        put();
        item();
        shelf();
        taken();
        act();
        trace();
        many();
        keep();
        again();
    }

    private void newObject() {
        sentence("`HeldTongues()`: Nobody; nothing is kept.");
        HeldTongues x = new HeldTongues();
        for (int what = 0; what <= 6; what++) {
            due("many " + what, x.many(what), 0);
        }
        due("no first one", x.of(0, KIND), BAD);
        due("nothing is kept", x.again(), NONE);
        due("the first number", x.person(0, 0, 0, 0), 0);
        due("another object has nobody", new HeldTongues().many(PEOPLE), 0);
    }

    private void feed() {
        sentence("`int feed(long eight, int n)`: n bytes (1 to 8) come to THE TAPE, the lowest of eight first: "
                + "how many it has. BAD; FULL: more than 200.");
        for (int wrong : new int[] {0, 9, -1, LEAST, MOST}) {
            refused(BAD, "feed", ';', wrong);
        }
        for (int n = 1; n <= 8; n++) {
            HeldTongues x = new HeldTongues();
            due("so many", x.feed(0x2020203b6b6e6f6dL, n), n);
            due("so many", x.many(BYTES), n);
            due("the lowest first", x.town(), n < 4 ? -100 : n == 4 ? -104 : 1);
        }
        HeldTongues top = new HeldTongues();
        top.feed(0x3b6b6e6f6d202020L, 8);
        due("the highest last", top.town(), 1);
        for (int n = 1; n <= 8; n++) {
            HeldTongues x = new HeldTongues();
            Due.feedAll(x, " ".repeat(200 - n));
            due("just 200", x.feed(0x2020202020202020L, n), 200);
            HeldTongues y = new HeldTongues();
            Due.feedAll(y, " ".repeat(201 - n));
            due("one too many", y.feed(0x2020202020202020L, n), FULL);
            due("none of them came", y.many(BYTES), 201 - n);
        }
        changesNothing(Twins::full, FULL, "feed", ';', 1);
        changesNothing(Twins::full, FULL, "feed", ';', 8);
    }

    private void town() {
        sentence("`int town()`: THE TAPE becomes all: how many PEOPLE; -100 less its FAULT. There are no ROWS then.");
        due("of nothing", new HeldTongues().town(), 0);
        due("fault 0", Due.tell(new HeldTongues(), ";"), -100);
        due("fault 1", Due.tell(new HeldTongues(), " ;"), -101);
        due("fault 200", Due.tell(new HeldTongues(), "monk" + " ".repeat(196)), -300);
        HeldTongues x = Twins.usual();
        due("a fault", x.town(), -105);
        due("leaves the rows", x.many(ROWS), Twins.ROWS);
        due("a town of nobody", x.town(), 0);
        due("leaves none", x.many(ROWS), 0);
        due("leaves none", x.row(0, 0), NO_ROW);
        due("but what is kept", x.again(), Twins.PEOPLE);
        due("brings none back", x.many(ROWS), 0);
        due("the sheets stay", x.item(1, 2, 2), 99);
        due("the shelves stay", x.taken(0, PRIOR) * 100 + x.taken(1, 10), 205);
        due("the trace stays", x.many(BODIES), Twins.BODIES);
    }

    private void laws() {
        sentence("`int set(int law, int v)`: A LAW becomes v: what it was. BAD.");
        ranges(BAD, "set", 0, 3, 0, 9);
        refused(BAD, "set", LOT, 100);
        refused(BAD, "set", LOT, -1);
        refused(BAD, "set", QUIET, 10);
        refused(BAD, "set", GROWTH, 10);
        refused(BAD, "set", 4, 100);
        HeldTongues x = new HeldTongues();
        due("what it was", x.set(LOT, 99), 20);
        due("what it was", x.set(LOT, 99), 99);
        due("what it was", x.set(LOT, 0), 99);

        sentence("`int lawOf(int law)`: A LAW. BAD.");
        ranges(BAD, "lawOf", 0, 3);
        onlyAsks("lawOf", LOUD);
        due("as it was set", x.lawOf(LOT), 0);
    }

    private void person() {
        sentence("`int person(int kind, int need, int saved, int voice)`: One more, ALONE: its number. BAD; FULL.");
        ranges(BAD, "person", 0, 5, 0, 99, 0, 99, 0, 9);
        changesNothing(Twins::full, FULL, "person", 5, 99, 99, 9);
        changesNothing(Twins::full, FULL, "person", 0, 0, 0, 0);
        HeldTongues x = new HeldTongues();
        for (int i = 0; i < 8; i++) {
            due("its number", x.person(CITIZEN, 0, 0, 0), i);
            due("alone", x.of(i, PARTNER), 0);
            due("speaks", x.of(i, SPEAKS), 1);
        }
        due("a ninth", x.person(CITIZEN, 0, 0, 0), FULL);
    }

    private void of() {
        sentence("`int of(int person, int what)`: Of one: what = 0 KIND, 1 NEED, 2 SAVED, 3 VOICE, 4 its PARTNER "
                + "(0: ALONE; else 1 and the number), 5 1 if it SPEAKS, else 0. BAD.");
        ranges(BAD, "of", 0, LAST, 0, 5);
        onlyAsks("of", LAST, 5);
        changesNothing(HeldTongues::new, BAD, "of", 0, 0);
        HeldTongues x = new HeldTongues();
        for (int i = 0; i < 8; i++) {
            x.person(CHILD, 10 + i, 20 + i, i);
        }
        x.pair(7, 0);
        int[][] want = {{CHILD, 10, 20, 0, 8, 0}, {CHILD, 17, 27, 7, 1, 1}, {CHILD, 13, 23, 3, 0, 1}};
        int[] whom = {0, 7, 3};
        for (int i = 0; i < 18; i++) {
            due("of " + whom[i / 6] + " " + i % 6, x.of(whom[i / 6], i % 6), want[i / 6][i % 6]);
        }
    }

    private void does() {
        sentence("`int does(int person, int what)`: 1000, and what one SAYS (what 0), GROWS (1), SAVES (2) now. BAD.");
        ranges(BAD, "does", 0, LAST, 0, 2);
        onlyAsks("does", LAST, 2);
        HeldTongues x = still();
        x.person(PRIOR, 0, 0, 0);
        due("nothing said", x.does(0, SAYS), 1000);
        due("below 0", x.does(0, GROWS), 998);
        due("saved", x.does(0, SAVES), 1006);
        x.person(HAWKER, 0, 0, 9);
        x.set(LOUD, 9);
        x.set(GROWTH, 9);
        x.set(QUIET, 9);
        due("the most that is said", x.does(1, SAYS), 1036);
        due("the most that grows", x.does(1, GROWS), 1019);
        due("the most that is saved", x.does(0, SAVES), 1030);
        x.pair(0, 1);
        due("not twice for partners", x.does(1, SAYS), 1036);
    }

    private void mind() {
        sentence("`int mind(int person, int kind, int voice)`: One becomes one of another KIND, with another VOICE: "
                + "the KIND that it was. BAD.");
        ranges(BAD, "mind", 0, LAST, 0, 5, 0, 9);
        HeldTongues x = Twins.usual();
        due("what it was", x.mind(3, PRIOR, 9), CHILD);
        due("what it was", x.mind(3, PRIOR, 0), PRIOR);
        due("voice", x.of(3, VOICE), 0);
        due("partner and speaking stay", x.of(3, PARTNER) * 10 + x.of(3, SPEAKS), 21);
    }

    private void change() {
        sentence("`int change(int person, int what, int v)`: NEED (what 1), SAVED (2) of one becomes v: what it was. "
                + "BAD.");
        ranges(BAD, "change", 0, LAST, 1, 2, 0, 99);
        refused(BAD, "change", 0, 2, -1);
        refused(BAD, "change", 0, 2, 100);
        refused(BAD, "change", 0, 0, 1);
        refused(BAD, "change", 0, 3, 1);
        HeldTongues x = stillWith(1, 5, 0);
        due("what it was", x.change(0, NEED, 99), 5);
        due("what it was", x.change(0, NEED, 0), 99);
        due("what it was", x.change(0, SAVED, 99), 0);
        due("what it was", x.change(0, SAVED, 0), 99);
        due("what it was", x.change(0, NEED, 7), 0);
        due("only that", x.of(0, SAVED) * 100 + x.of(0, NEED), 7);
    }

    private void pair() {
        sentence("`int pair(int person, int other)`: Two are PAIRED, the first one SPEAKS: 1 if they were PARTNERS, "
                + "else 0. BAD: also one and the same.");
        for (int wrong : new int[] {-1, Twins.PEOPLE, 8, LEAST, MOST}) {
            refused(BAD, "pair", wrong, 0);
            refused(BAD, "pair", 0, wrong);
            refused(BAD, "pair", wrong, wrong);
        }
        for (int i = 0; i < Twins.PEOPLE; i++) {
            refused(BAD, "pair", i, i);
        }
        HeldTongues x = stillWith(8, 0, 0);
        due("were not", x.pair(7, 0), 0);
        due("were", x.pair(7, 0), 1);
        due("were", x.pair(0, 7), 1);
        due("the first one speaks", x.state(SPEAKERS), 127);
        due("were not, though each had one", x.pair(0, 6), 0);
        due("were not any more", x.pair(0, 7), 0);
    }

    private void leave() {
        sentence("`int leave(int person)`: One is ALONE then, and so is who was its PARTNER: 1 if it had one, else 0. "
                + "BAD.");
        ranges(BAD, "leave", 0, LAST);
        HeldTongues x = stillWith(4, 0, 0);
        x.pair(3, 0);
        x.pair(1, 2);
        due("had one", x.leave(0), 1);
        due("so is who was its partner", x.of(3, PARTNER), 0);
        due("had none", x.leave(3), 0);
        due("had none", x.leave(0), 0);
        due("the others are partners still", x.many(PAIRS), 1);
    }

    private void spent(int need, int saved, int then, int left) {
        HeldTongues x = still();
        x.person(CITIZEN, need, saved, 0);
        due("spent " + need + " " + saved, x.spend(0), then);
        due("NEED of " + need + " " + saved, x.of(0, NEED), then);
        due("the rest of " + need + " " + saved, x.of(0, SAVED), left);
        due("nothing to the geese", x.state(GEESE), 0);
    }

    private void spend() {
        sentence("`int spend(int person)`: All that one SAVED goes to its NEED (99 at most; the rest stays SAVED): "
                + "NEED then. BAD.");
        ranges(BAD, "spend", 0, LAST);
        spent(0, 0, 0, 0);
        spent(0, 99, 99, 0);
        spent(1, 99, 99, 1);
        spent(99, 99, 99, 99);
        spent(99, 0, 99, 0);
        spent(60, 38, 98, 0);
        spent(60, 39, 99, 0);
        spent(60, 40, 99, 1);
    }

    private void days() {
        sentence("`int days(int n)`: n DAYS (1 to 60): HEARD then. BAD.");
        ranges(BAD, "days", 1, 60);
        HeldTongues x = stillWith(1, 99, 1);
        due("1 day", x.days(1), 1);
        due("60 days", x.days(60), 61);
        due("60 days", x.days(60), 99);
        due("DAY", x.state(DAY), 121);
        due("no draws", x.seed(1), 1);
    }

    private void seed() {
        sentence("`int seed(int v)`: z becomes v: what it was.");
        HeldTongues x = new HeldTongues();
        int was = 1;
        for (int v : new int[] {0, -1, LEAST, MOST, -11, 5}) {
            due("what it was", x.seed(v), was);
            was = v;
        }
    }

    private void day() {
        sentence("`int day()`: A DAY BY DRAWS: how much was said in it.");
        due("of nobody", new HeldTongues().day(), 0);
        HeldTongues x = stillWith(2, 10, 4);
        x.set(LOT, 0);
        due("the first", x.day(), 8);
        due("the second", x.day(), 8);
        due("the third, what was left", x.day(), 4);
        due("the fourth, nothing", x.day(), 0);
        due("HEARD", x.state(HEARD), 20);
        due("DAY", x.state(DAY), 4);
    }

    private void luck() {
        sentence("`int luck(int n)`: LUCK (n 1 to 30). BAD.");
        ranges(BAD, "luck", 1, 30);
        onlyAsks("luck", 1);
    }

    private void state() {
        sentence("`int state(int what)`: What = 0 DAY, 1 HEARD, 2 GEESE, 3 NEED of all together, "
                + "4 SAVED of all together, 5 those that SPEAK, as a set. BAD.");
        ranges(BAD, "state", 0, 5);
        onlyAsks("state", 5);
        HeldTongues x = new HeldTongues();
        for (int what = 0; what <= 5; what++) {
            due("of nobody", x.state(what), 0);
        }
        for (int i = 0; i < 8; i++) {
            x.person(CITIZEN, 99, 99, 1);
        }
        x.pair(0, 7);
        due("NEED, the most", x.state(ALL_NEED), 792);
        due("SAVED, the most", x.state(ALL_SAVED), 792);
        due("those that speak", x.state(SPEAKERS), 127);
        x.days(1);
        due("DAY", x.state(DAY), 1);
        due("HEARD", x.state(HEARD), 8);
        due("GEESE", x.state(GEESE), 24);
        due("NEED", x.state(ALL_NEED), 784);
        due("those that speak", x.state(SPEAKERS), 254);
    }

    private void sound() {
        sentence("`int sound(int n)`: SOUND by n (0 to 60). BAD.");
        ranges(BAD, "sound", 0, 60);
        HeldTongues x = stillWith(1, 60, 1);
        due("by 0", x.sound(0), 0);
        due("by 1", x.sound(1), 1);
        due("by 59", x.sound(59), 59);
        due("by 60", x.sound(60), 60);
        due("of nobody", new HeldTongues().sound(60), 0);
    }

    private void eased() {
        sentence("`int eased(int person)`: EASED. BAD; NONE: not by then.");
        ranges(BAD, "eased", 0, LAST);
        HeldTongues x = stillWith(2, 60, 1);
        x.change(1, NEED, 61);
        due("just by then", x.eased(0), 60);
        due("not by then", x.eased(1), NONE);
    }

    private void full() {
        sentence("`int full(int person)`: FULL of one. BAD; NONE: not by then.");
        ranges(BAD, "full", 0, LAST);
        HeldTongues x = stillWith(2, 39, 0);
        x.change(1, NEED, 38);
        x.set(GROWTH, 1);
        due("just by then", x.full(0), 60);
        due("not by then", x.full(1), NONE);
    }

    private void hush() {
        sentence("`int hush()`: HUSH. NONE: not by then.");
        HeldTongues x = stillWith(2, 60, 1);
        due("just by then", x.hush(), 60);
        x.change(1, NEED, 61);
        due("not by then", x.hush(), NONE);
        x.change(0, NEED, 0);
        due("not by then", x.hush(), NONE);
        x.change(1, NEED, 0);
        due("now", x.hush(), 0);
    }

    private void partnerFor() {
        sentence("`int partnerFor(int person, int n)`: PARTNER FOR one, n (1 to 20). BAD; NONE: nobody.");
        ranges(BAD, "partnerFor", 0, LAST, 1, 20);
        HeldTongues x = stillWith(2, 0, 0);
        due("nobody", x.partnerFor(0, 20), NONE);
        x.mind(1, CITIZEN, 9);
        x.change(0, NEED, 1);
        due("the last day is tried, too", x.partnerFor(0, 2), 1);
        due("nobody by 1", x.partnerFor(0, 1), NONE);
    }

    private void kindFor() {
        sentence("`int kindFor(int person, int n)`: KIND FOR one, n (1 to 20). BAD.");
        ranges(BAD, "kindFor", 0, LAST, 1, 20);
        HeldTongues x = stillWith(1, 99, 9);
        due("most by 1", x.kindFor(0, 1), HAWKER);
        due("most by 20", x.kindFor(0, 20), HAWKER);
        x.set(LOUD, 0);
        x.change(0, NEED, 0);
        due("a child's NEED grows most", x.kindFor(0, 20), CHILD);
    }

    private void voiceFor() {
        sentence("`int voiceFor(int person, int n, int v)`: VOICE FOR one, n (1 to 20), v (0 to 9999). BAD; "
                + "NONE: with none.");
        ranges(BAD, "voiceFor", 0, LAST, 1, 20, 0, 9999);
        HeldTongues x = stillWith(1, 99, 9);
        due("v 0", x.voiceFor(0, 1, 0), 0);
        due("with the last", x.voiceFor(0, 1, 9), 9);
        due("with none", x.voiceFor(0, 1, 10), NONE);
        due("with none", x.voiceFor(0, 20, 9999), NONE);
    }

    private void best() {
        sentence("`int best(int n)`: BEST by n (1 to 5). BAD.");
        ranges(BAD, "best", 1, 5);
        HeldTongues x = stillWith(8, 99, 9);
        due("by 1", x.best(1), 72);
        due("by 5", x.best(5), 360);
    }

    private void bestOf() {
        sentence("`int bestOf(int n, int person)`: BEST by n: the PARTNER of one in the FIRST way to it "
                + "(0: ALONE; else 1 and the number). BAD.");
        ranges(BAD, "bestOf", 1, 5, 0, LAST);
        changesNothing(HeldTongues::new, BAD, "bestOf", 1, 0);
        HeldTongues x = stillWith(8, 0, 0);
        x.mind(0, CITIZEN, 9);
        x.change(7, NEED, 18);
        due("1 and the number", x.bestOf(1, 0), 8);
        due("1 and the number", x.bestOf(1, 7), 1);
        due("alone", x.bestOf(1, 3), 0);
        x.pair(3, 4);
        due("alone, whatever partner it has", x.bestOf(1, 3), 0);
    }

    private void fits() {
        sentence("`int fits(int sheet, int person, int what)`: FITS: what = 0 how many VOICES, 1 the least. "
                + "BAD: no such SHEET, one, what; -11; NONE (what 1): none.");
        ranges(BAD, "fits", 0, 3, 0, LAST, 0, 1);
        refused(NOTHING, "fits", 2, 0, 0);
        refused(NOTHING, "fits", 2, LAST, 1);
        HeldTongues x = stillWith(1, 9, 3);
        x.sheet(3, 0, 1);
        due("how many: 9 alone leaves 0", x.fits(3, 0, 0), 1);
        due("the least", x.fits(3, 0, 1), 9);
        x.change(0, NEED, 10);
        due("how many: none", x.fits(3, 0, 0), 0);
        due("none", x.fits(3, 0, 1), NONE);
    }

    private void odds() {
        sentence("`long odds(int n, int k, int part)`: ODDS by n (0 to 8), k (0 to n): a part of them. BAD.");
        ranges(BAD, "odds", 0, 8, 0, 0, 0, 1);
        for (int n = 0; n <= 8; n++) {
            refused(BAD, "odds", n, n + 1, 0);
            refused(BAD, "odds", n, -1, 1);
            due("k 0 is taken", new HeldTongues().odds(n, 0, 0) > 0 ? 1 : 0, 1);
            due("k n is taken", new HeldTongues().odds(n, n, 0) > 0 ? 1 : 0, 1);
        }
        refused(BAD, "odds", -1, -1, 0);
        refused(BAD, "odds", 9, 9, 0);
        refused(BAD, "odds", MOST, MOST, 0);
    }

    private void hope() {
        sentence("`long hope(int n, int part)`: HOPE by n (0 to 99): a part of it. BAD.");
        ranges(BAD, "hope", 0, 99, 0, 1);
        due("99, above", new HeldTongues().hope(99, 0), 99);
        due("99, below", new HeldTongues().hope(99, 1), 5);
    }

    private void prove() {
        sentence("`int prove(int person, int n)`: ROWS of one by n DAYS (1 to 10): how many. BAD.");
        ranges(BAD, "prove", 0, LAST, 1, 10);
        HeldTongues x = Twins.usual();
        due("10", x.prove(0, 10), 10);
        due("10 rows", x.many(ROWS), 10);
        due("1", x.prove(0, 1), 1);
        due("1 row", x.many(ROWS), 1);
        due("the others are gone", x.row(1, 0), NO_ROW);
    }

    private void row() {
        sentence("`int row(int i, int what)`: Of ROW i: what = 0 NEED, 1 SAVED, 2 how much was said. "
                + "-9: there is none such, another what.");
        ranges(NO_ROW, "row", 0, Twins.ROWS - 1, 0, 2);
        onlyAsks("row", 0, 0);
        changesNothing(HeldTongues::new, NO_ROW, "row", 0, 0);
        HeldTongues x = stillWith(1, 9, 2);
        x.change(0, SAVED, 5);
        x.prove(0, 10);
        due("NEED", x.row(0, 0), 7);
        due("SAVED", x.row(0, 1), 5);
        due("how much was said", x.row(0, 2), 2);
        due("the last", x.row(9, 2), 0);
        due("behind the last", x.row(10, 2), NO_ROW);
    }

    private void alterRow() {
        sentence("`int alterRow(int i, int what, int v)`: It becomes v: what it was. -9 likewise.");
        for (int wrong : new int[] {-1, Twins.ROWS, LEAST, MOST}) {
            refused(NO_ROW, "alterRow", wrong, 0, 5);
            refused(NO_ROW, "alterRow", 0, wrong, 5);
        }
        changesNothing(HeldTongues::new, NO_ROW, "alterRow", 0, 0, 5);
        HeldTongues x = stillWith(1, 9, 2);
        x.prove(0, 10);
        for (int what = 0; what < 3; what++) {
            int was = x.row(9, what);
            due("what it was", x.alterRow(9, what, MOST), was);
            due("what it was", x.alterRow(9, what, LEAST), MOST);
            due("any int", x.row(9, what), LEAST);
            due("it alone", x.row(8, what), 0);
        }
    }

    private void judge() {
        sentence("`int judge(int person)`: THE READER takes ROWS: 0 all is right (also if there are none); "
                + "else the first ROW that isn't, and 1 more. BAD.");
        ranges(BAD, "judge", 0, LAST);
        onlyAsks("judge", 1);
        onlyAsks("judge", 0);
        due("there are none", stillWith(1, 9, 1).judge(0), 0);
        changesNothing(HeldTongues::new, BAD, "judge", 0);
        HeldTongues x = stillWith(1, 99, 1);
        x.prove(0, 10);
        due("all is right", x.judge(0), 0);
        for (int i = 9; i >= 0; i--) {
            x.alterRow(i, i % 3, -5);
            due("the first that isn't", x.judge(0), i + 1);
        }
    }

    private void minds() {
        sentence("`int minds(int sheet, int i, int person, int n)`: n numbers (0 to 8) of a SHEET taken for bytes, "
                + "from i on, become NEED of PEOPLE from one on (held to 0 to 99): n.");
        HeldTongues x = stillWith(8, 50, 0);
        x.sheet(0, 0, 8);
        int[] numbers = {0, -1, -128, 99, 100, 127, 98, 1};
        int[] needs = {0, 0, 0, 99, 99, 99, 98, 1};
        for (int i = 0; i < 8; i++) {
            x.put(0, i, numbers[i]);
        }
        due("none", x.minds(0, 0, 0, 0), 0);
        due("none changed", x.state(ALL_NEED), 400);
        due("one, the last to the last", x.minds(0, 7, 7, 1), 1);
        due("it alone", x.of(7, NEED) * 1000 + x.state(ALL_NEED), 1351);
        due("all eight", x.minds(0, 0, 0, 8), 8);
        for (int i = 0; i < 8; i++) {
            due("held", x.of(i, NEED), needs[i]);
        }
        due("from i on, from one on", x.minds(0, 3, 5, 2), 2);
        due("from one on", x.of(5, NEED) * 100 + x.of(6, NEED), 9999);
        due("no other", x.of(7, NEED), 1);
    }

    private void mindsOutside() {
        sentence("BAD: no such SHEET, one, n, or n goes beyond the last one; -11; -13; -12: i is not 0 to how many "
                + "items there are (also for n 0), or there are not so many.");
        for (int wrong : new int[] {-1, 4, LEAST, MOST}) {
            refused(BAD, "minds", wrong, 0, 0, 1);
            refused(BAD, "minds", 0, 0, wrong, 0);
        }
        for (int wrong : new int[] {-1, 9, LEAST, MOST}) {
            refused(BAD, "minds", 0, 0, 0, wrong);
            refused(BAD, "minds", 2, 0, 0, wrong);
        }
        for (int person = 0; person < Twins.PEOPLE; person++) {
            refused(BAD, "minds", 0, 0, person, Twins.PEOPLE - person + 1);
            due("to the last one", Twins.usual().minds(0, 0, person, Twins.PEOPLE - person), Twins.PEOPLE - person);
        }
        refused(NOTHING, "minds", 2, 0, 0, 1);
        refused(NOTHING, "minds", 2, 0, 0, 0);
        refused(ANOTHER, "minds", 1, 0, 0, 1);
        refused(ANOTHER, "minds", 3, 0, 0, 0);
        for (int wrong : new int[] {-1, 6, LEAST, MOST}) {
            refused(OUTSIDE, "minds", 0, wrong, 0, 0);
            refused(OUTSIDE, "minds", 0, wrong, 0, 1);
        }
        due("i how many there are, for n 0", Twins.usual().minds(0, 5, 0, 0), 0);
        refused(OUTSIDE, "minds", 0, 5, 0, 1);
        refused(OUTSIDE, "minds", 0, 4, 0, 2);
        refused(OUTSIDE, "minds", 0, 2, 0, 4);
        due("just so many", Twins.usual().minds(0, 1, 0, 4), 4);
        HeldTongues x = stillWith(8, 5, 0);
        x.sheet(0, 0, 0);
        due("no items, for n 0", x.minds(0, 0, 7, 0), 0);
        due("no items", x.minds(0, 0, 7, 1), OUTSIDE);
        due("nobody at that number", x.minds(0, 0, 8, 0), BAD);
        x.sheet(0, 0, 7);
        due("seven for eight", x.minds(0, 0, 0, 8), OUTSIDE);
        due("none of them changed", x.state(ALL_NEED), 40);
    }

    private void sheet() {
        sentence("`int sheet(int sheet, int sort, int n)`: A SHEET becomes a row of n of a sort, all 0, or missing "
                + "(sort -1; n counts nothing then): 1. BAD: no such SHEET, sort, n above 40; -14.");
        for (int wrong : new int[] {-1, 4, LEAST, MOST}) {
            refused(BAD, "sheet", wrong, 0, 1);
            refused(BAD, "sheet", wrong, -1, 1);
        }
        for (int wrong : new int[] {-2, 4, LEAST, MOST}) {
            refused(BAD, "sheet", 0, wrong, 1);
        }
        for (int sort = 0; sort < 4; sort++) {
            refused(BAD, "sheet", 0, sort, 41);
            refused(BAD, "sheet", 0, sort, MOST);
            refused(BELOW_ZERO, "sheet", 0, sort, -1);
            refused(BELOW_ZERO, "sheet", 0, sort, LEAST);
        }
        HeldTongues x = Twins.usual();
        due("anew", x.sheet(0, 0, 5), 1);
        due("all 0", x.item(0, 0, 1) + x.item(0, 0, 4), 0);
        due("of none", x.sheet(0, 0, 0), 1);
        due("of none", x.item(0, 0, 0), OUTSIDE);
        due("of 40", x.sheet(0, 3, 40), 1);
        due("of 40", x.item(0, 3, 39), 0);
        for (int n : new int[] {0, -1, 40, 41, LEAST, MOST}) {
            x.sheet(0, 2, 1);
            due("missing, n counts nothing", x.sheet(0, -1, n), 1);
            due("missing", x.item(0, 2, 0), NOTHING);
            due("missing, missing already", x.sheet(0, -1, n), 1);
        }
        due("the others stay", x.item(1, 2, 2), 99);
    }

    private void put() {
        sentence("`int put(int sheet, int i, int v)`: Item i becomes v, narrowed to its sort: 1. "
                + "BAD: no such SHEET; -11; -12.");
        for (int wrong : new int[] {-1, 4, LEAST, MOST}) {
            refused(BAD, "put", wrong, 0, 1);
        }
        refused(NOTHING, "put", 2, 0, 1);
        for (int wrong : new int[] {-1, 5, LEAST, MOST}) {
            refused(OUTSIDE, "put", 0, wrong, 1);
        }
        HeldTongues x = Twins.usual();
        due("the first", x.put(0, 0, 511), 1);
        due("narrowed", x.item(0, 0, 0), -1);
        due("the last", x.put(0, 4, 384), 1);
        due("narrowed", x.item(0, 0, 4), -128);
        due("the others stay", x.item(0, 0, 1), 7);
        x.sheet(2, 1, 40);
        due("narrowed", x.put(2, 39, 98303) + x.item(2, 1, 39), 32768);
    }

    private void item() {
        sentence("`int item(int sheet, int sort, int i)`: Item i, taken for a sort (0 to 3; of longs the lowest "
                + "32 bits). BAD: no such SHEET, sort; -11; -13; -12. (An item may be as low as these, too.)");
        for (int wrong : new int[] {-1, 4, LEAST, MOST}) {
            refused(BAD, "item", wrong, 0, 0);
            refused(BAD, "item", 0, wrong, 0);
        }
        for (int sort = 0; sort < 4; sort++) {
            refused(NOTHING, "item", 2, sort, 0);
            due("of its sort alone", Twins.usual().item(0, sort, 0), sort == 0 ? 0 : ANOTHER);
            due("of its sort alone", Twins.usual().item(3, sort, 0), sort == 3 ? 0 : ANOTHER);
        }
        for (int wrong : new int[] {-1, 5, LEAST, MOST}) {
            refused(OUTSIDE, "item", 0, 0, wrong);
        }
        onlyAsks("item", 0, 0, 4);
        HeldTongues x = Twins.usual();
        for (int low : new int[] {BAD, NOTHING, OUTSIDE, ANOTHER, LEAST, MOST}) {
            x.put(3, 0, low);
            due("as low as these", x.item(3, 3, 0), low);
        }
    }

    private void shelf() {
        sentence("`int shelf(int shelf, int what, int n)`: A SHELF holds one of PEOPLE (what 0, its number n), "
                + "the row of SHEET n (1; nothing, if missing), nothing (2): 1. BAD: no such SHELF, what, thing.");
        for (int wrong : new int[] {-1, 4, LEAST, MOST}) {
            refused(BAD, "shelf", wrong, 0, 0);
            refused(BAD, "shelf", wrong, 2, 0);
            refused(BAD, "shelf", 0, 0, wrong);
            refused(BAD, "shelf", 0, 1, wrong);
        }
        for (int wrong : new int[] {-1, 3, LEAST, MOST}) {
            refused(BAD, "shelf", 0, wrong, 0);
        }
        HeldTongues x = Twins.usual();
        due("the last one of PEOPLE", x.shelf(3, 0, LAST), 1);
        due("is held", x.taken(3, CITIZEN), LAST);
        due("the last sheet", x.shelf(3, 1, 3), 1);
        due("its row is held", x.taken(3, 13), 1);
        due("a missing one", x.shelf(3, 1, 2), 1);
        due("is nothing", x.taken(3, 13), NOTHING);
        x.sheet(2, 3, 4);
        due("is nothing still", x.taken(3, 13), NOTHING);
        x.shelf(3, 0, 0);
        for (int n : new int[] {0, -1, 99, LEAST, MOST}) {
            due("nothing, whatever n is", x.shelf(3, 2, n), 1);
            due("nothing", x.taken(3, CITIZEN), NOTHING);
        }
        due("the others stay", x.taken(0, CITIZEN) * 10 + x.taken(1, 10), 25);
    }

    private void taken() {
        sentence("`int taken(int shelf, int as)`: What a SHELF holds taken for a thing of KIND as (0 to 5, or one "
                + "under it): its number; for a row of sort as - 10 (as 10 to 13): how many items. "
                + "BAD: no such SHELF, as; -11; -13.");
        for (int wrong : new int[] {-1, 4, LEAST, MOST}) {
            refused(BAD, "taken", wrong, 0);
            refused(BAD, "taken", wrong, 10);
        }
        for (int wrong : new int[] {-1, 6, 9, 14, LEAST, MOST}) {
            refused(BAD, "taken", 0, wrong);
            refused(BAD, "taken", 1, wrong);
            refused(BAD, "taken", 2, wrong);
        }
        int[] person = {2, ANOTHER, 2, ANOTHER, 2, ANOTHER};
        for (int as = 0; as < 6; as++) {
            changesNothing(Twins::usual, person[as], "taken", 0, as);
            refused(ANOTHER, "taken", 1, as);
            refused(NOTHING, "taken", 2, as);
        }
        for (int as = 10; as < 14; as++) {
            refused(ANOTHER, "taken", 0, as);
            changesNothing(Twins::usual, as == 10 ? 5 : ANOTHER, "taken", 1, as);
            changesNothing(Twins::usual, as == 12 ? 3 : ANOTHER, "taken", 3, as);
            refused(NOTHING, "taken", 2, as);
        }
        HeldTongues x = new HeldTongues();
        for (int n = 0; n <= 40; n += 40) {
            x.sheet(0, 3, n);
            x.shelf(0, 1, 0);
            due("how many items", x.taken(0, 13), n);
        }
    }

    private void act() {
        sentence("`int act(int shelf, int act, int x)`: An ACT (0 to 3) of the thing on a SHELF, with x. "
                + "0, and no TRACE then: no such SHELF, act, nothing, a row.");
        int[][] wrong = {{-1, 0}, {4, 0}, {LEAST, 0}, {MOST, 0}, {0, -1}, {0, 4}, {0, LEAST}, {0, MOST},
            {2, 0}, {2, 3}, {1, 0}, {3, 2}};
        for (int[] call : wrong) {
            HeldTongues x = Twins.usual();
            due("there is a trace", x.many(BODIES), Twins.BODIES);
            due("act " + call[0] + " " + call[1], x.act(call[0], call[1], 5), 0);
            due("no trace", x.many(BODIES), 0);
            due("no trace", x.trace(0), NONE);
        }
        HeldTongues x = Twins.usual();
        due("the first act", x.act(0, 0, 5), -22);
        due("the last act", x.act(0, 3, 5), -39 ^ -22 ^ 60);
        Due.feedAll(x, "or;");
        x.town();
        due("nobody of that number", x.act(0, 0, 5), 0);
        due("no trace", x.many(BODIES), 0);
    }

    private void trace() {
        sentence("`int trace(int i)`: THE TRACE's i-th body. NONE.");
        ranges(NONE, "trace", 0, Twins.BODIES - 1);
        changesNothing(HeldTongues::new, NONE, "trace", 0);
        HeldTongues x = Twins.usual();
        due("the first", x.trace(0), 31);
        due("the last", x.trace(Twins.BODIES - 1), 12);
    }

    private void many() {
        sentence("`int many(int what)`: How many: what = 0 PEOPLE, 1 pairs of PARTNERS, 2 those that SPEAK, "
                + "3 those whose NEED is 99, 4 ROWS, 5 bytes of THE TAPE, 6 bodies of THE TRACE. BAD: another what.");
        ranges(BAD, "many", 0, 6);
        int[] usual = {Twins.PEOPLE, 1, 3, 0, Twins.ROWS, 8, Twins.BODIES};
        for (int what = 0; what <= 6; what++) {
            due("of nobody", new HeldTongues().many(what), 0);
            changesNothing(Twins::usual, usual[what], "many", what);
        }
        HeldTongues x = stillWith(8, 99, 0);
        for (int i = 0; i < 8; i += 2) {
            x.pair(i, i + 1);
        }
        x.change(3, NEED, 98);
        int[] want = {8, 4, 4, 7};
        for (int what = 0; what < 4; what++) {
            due("of eight " + what, x.many(what), want[what]);
        }
        HeldTongues full = Twins.full();
        due("rows, the most", full.many(ROWS), 10);
        due("bytes, the most", full.many(BYTES), 200);
    }

    private void keep() {
        sentence("`int keep()`: All but THE TAPE, ROWS, SHEETS, SHELVES, THE TRACE is kept: 1.");
        HeldTongues x = new HeldTongues();
        due("of nobody", x.keep(), 1);
        x.person(MONK, 0, 0, 0);
        x.days(1);
        x.seed(9);
        x.set(LOT, 5);
        due("nobody is kept", x.again(), 0);
        due("DAY", x.state(DAY), 0);
        due("z", x.seed(1), 1);
        due("law", x.lawOf(LOT), 20);
        HeldTongues y = Twins.usual();
        due("kept", y.keep(), 1);
        y.feed(';', 1);
        y.prove(0, 7);
        y.sheet(1, -1, 0);
        y.shelf(0, 2, 0);
        y.act(0, 0, 0);
        y.days(60);
        y.seed(4);
        y.again();
        due("the tape isn't", y.many(BYTES), 9);
        due("rows aren't", y.many(ROWS), 7);
        due("sheets aren't", y.item(1, 2, 2), NOTHING);
        due("shelves aren't", y.taken(0, PRIOR), NOTHING);
        due("the trace isn't", y.many(BODIES), 0);
        due("z is", y.seed(77), 77);
        HeldTongues twin = Twins.usual();
        for (int what = 0; what < 6; what++) {
            due("state is", y.state(what), twin.state(what));
        }
        for (int i = 0; i < Twins.PEOPLE * 6; i++) {
            due("people are", y.of(i / 6, i % 6), twin.of(i / 6, i % 6));
        }
        due("laws are", y.lawOf(LOUD) * 10 + y.lawOf(QUIET), 42);
    }

    private void again() {
        sentence("`int again()`: It becomes what was kept latest (which stays): how many PEOPLE. "
                + "NONE: nothing is kept.");
        changesNothing(HeldTongues::new, NONE, "again");
        HeldTongues never = stillWith(3, 9, 1);
        due("nothing is kept", never.again(), NONE);
        due("and nothing changes", never.many(PEOPLE), 3);
        HeldTongues x = stillWith(8, 9, 1);
        x.keep();
        x.town();
        due("it stays, whatever town there is", x.again(), 8);
        x.days(3);
        due("it stays", x.again(), 8);
        due("as it was", x.state(ALL_NEED), 72);
        x.change(7, NEED, 5);
        due("a copy", x.again() + x.of(7, NEED), 17);
        x.town();
        x.keep();
        due("the latest: nobody", x.again(), 0);
        x.person(MONK, 0, 0, 0);
        due("the latest: nobody", x.again(), 0);
    }
}
