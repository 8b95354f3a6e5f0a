/** Every promise of the document: ordinary inputs, the edges that it names, and wrong inputs. */
public final class PromisesTest {
    private static final int BAD = -1, FULL = -2, NONE = -3;
    private static final int CITIZEN = 0, WIFE = 1, MONK = 2, HAWKER = 3, PRIOR = 4, CHILD = 5;
    private static final int LOUD = 0, QUIET = 1, GROWTH = 2, LOT = 3;
    private static final int KIND = 0, NEED = 1, SAVED = 2, VOICE = 3, PARTNER = 4, SPEAKS = 5;
    private static final int SAYS = 0, GROWS = 1, SAVES = 2;
    private static final int LEAST = Integer.MIN_VALUE, MOST = Integer.MAX_VALUE;

    private static final Due DUE = new Due();

    private static void due(String call, long got, long want) {
        DUE.due(call, got, want);
    }

    /** Nobody grows any need here, so that what is said can be counted by hand. */
    private static HeldTongues still() {
        HeldTongues x = new HeldTongues();
        x.set(GROWTH, 0);
        return x;
    }

    private static void all(String name, int[] got, int... want) {
        due(name + ": how many", got.length, want.length);
        for (int i = 0; i < Math.min(got.length, want.length); i++) {
            due(name + "[" + i + "]", got[i], want[i]);
        }
    }

    private static int[] needs(HeldTongues x) {
        int[] needs = new int[x.many(0)];
        for (int i = 0; i < needs.length; i++) {
            needs[i] = x.of(i, NEED);
        }
        return needs;
    }

    private static int[] traceOf(HeldTongues x) {
        int[] bodies = new int[x.many(6)];
        for (int i = 0; i < bodies.length; i++) {
            bodies[i] = x.trace(i);
        }
        return bodies;
    }

    private static void newObject01() {
        HeldTongues x = new HeldTongues();
        for (int what = 0; what <= 6; what++) {
            due("new many " + what, x.many(what), 0);
        }
        for (int what = 0; what <= 5; what++) {
            due("new state " + what, x.state(what), 0);
        }
        due("new again", x.again(), NONE);
        due("new sheet", x.put(0, 0, 0), -11);
        due("new shelf", x.taken(3, 0), -11);
        due("new z", x.seed(4), 1);
        due("BAD", HeldTongues.BAD, -1);
        due("FULL", HeldTongues.FULL, -2);
        due("NONE", HeldTongues.NONE, -3);
    }

    private static void feed02() {
        HeldTongues x = new HeldTongues();
        due("feed 0", x.feed(0, 0), BAD);
        due("feed 9", x.feed(0, 9), BAD);
        due("feed -1", x.feed(0, -1), BAD);
        due("feed least", x.feed(0, LEAST), BAD);
        due("feed most", x.feed(0, MOST), BAD);
        for (int i = 1; i <= 24; i++) {
            due("feed", x.feed(0x2020202020202020L, 8), i * 8);
        }
        due("feed 7", x.feed(0x2020202020202020L, 7), 199);
        due("feed beyond", x.feed(0, 2), FULL);
        due("feed is refused whole", x.many(5), 199);
        due("feed last", x.feed(0x20, 1), 200);
        due("feed when full", x.feed(0x20, 1), FULL);
        due("feed bad when full", x.feed(0x20, 9), BAD);
        due("the tape's bytes", x.many(5), 200);
        due("town of blanks", x.town(), 0);
        due("tape used up", x.many(5), 0);
        due("lowest first", x.feed(0x3b6b6e6f6dL, 5), 5);
        due("a monk", x.town(), 1);
        due("of that kind", x.of(0, KIND), MONK);
        x.feed(0x3b6b6e6f6dL, 4);
        due("only n bytes count", x.town(), -104);
    }

    private static void told(String text, int want) {
        due("town of '" + text + "'", Due.tell(new HeldTongues(), text), want);
    }

    private static void texts03() {
        told("", 0);
        told("   ", 0);
        told("citizen;", 1);
        told("  citizen  ;  ", 1);
        told("citizen;wife;monk;hawker;prior;child;", 6);
        told("citizen need5saved6voice7;", 1);
        told("citizen need 099;", 1);
        told("citizen saved 99 ;", 1);
        told("citizen voice 9;", 1);
        told("citizen;wife;pair 1 with 0;", 2);
        told("loud 9;quiet 9;growth 9;lot 99;", 0);
        told("citizen;citizen;citizen;citizen;citizen;citizen;citizen;citizen;", 8);
    }

    private static void faults03() {
        told(";", -100);
        told(" ;", -101);
        told("baker;", -100);
        told("Citizen;", -100);
        told("wifemonk;", -100);
        told("citizens;", -100);
        told("citize;", -100);
        told("need 5;", -100);
        told("5;", -100);
        told("citizen", -107);
        told("citizen  ", -109);
        told("citizen\n;", -107);
        told("citizen;;", -108);
        told("citizen;\u00ff", -108);
        told("citizen wife;", -108);
        told("citizen need", -112);
        told("citizen need;", -112);
        told("citizen need x;", -113);
        told("citizen need 5", -114);
        told("citizen need wife;", -113);
        told("citizen saved wife;", -114);
        told("citizen voice wife;", -114);
        told("citizen need 5 wife;", -115);
        told("loud wife;", -105);
        told("loud 5 wife;", -107);
        told("pair wife;", -105);
        told("xitizen;", -100);
        told("citizen need -1;", -113);
        told("citizen need 100;", -113);
        told("citizen need 0099;", -113);
        told("citizen need 99999999999;", -113);
        told("citizen need 1 2;", -115);
        told("citizen need 1 need 2;", -115);
        told("citizen saved 1 need 2;", -116);
        told("citizen voice 1 saved 2;", -116);
        told("citizen voice 10;", -114);
        told("citizen saved 100;", -114);
        told("loud 10;", -105);
        told("quiet 10;", -106);
        told("growth 10;", -107);
        told("lot 100;", -104);
        told("loud 9 9;", -107);
        told("loud;", -104);
        told("loud", -104);
        told("pair 0 with 1;", -105);
        told("citizen;pair 0 with 1;", -120);
        told("citizen;pair 1 with 0;", -113);
        told("citizen;wife;pair 1 with 1;", -125);
        told("citizen;wife;pair 1 with 001;", -125);
        told("citizen;wife;pair 0000 with 1;", -118);
        told("citizen;wife;pair 0 with 0001;", -125);
        told("citizen;wife;pair 0 and 1;", -120);
        told("citizen;wife;pair 0 wife;", -120);
        told("citizen;wife;pair 0 with wife;", -125);
        told("citizen;wife;pair 0 with 1 wife;", -127);
        told("citizen;wife;pair 0 1;", -120);
        told("citizen;wife;pair 0 with 1", -126);
        told("citizen;wife;pair 0 with", -124);
        told("citizen;wife;pair 0", -119);
        told("citizen;wife;pair", -117);
        told("citizen;wife;pair 0 with 1 2;", -127);
        told("citizen;citizen;citizen;citizen;citizen;citizen;citizen;citizen; wife need 100;", -165);
    }

    private static void town03() {
        HeldTongues x = new HeldTongues();
        due("a town", Due.tell(x, "hawker need 12 saved 34 voice 5; child; monk need 7; pair 2 with 0;loud 7;"
                + "quiet 6;growth 5;lot 4;pair 1 with 2;loud 8;"), 3);
        due("kind", x.of(0, KIND), HAWKER);
        due("need", x.of(0, NEED), 12);
        due("saved", x.of(0, SAVED), 34);
        due("voice", x.of(0, VOICE), 5);
        due("need without", x.of(1, NEED), 0);
        due("saved without", x.of(1, SAVED), 0);
        due("voice without", x.of(1, VOICE), 3);
        due("need of the third", x.of(2, NEED), 7);
        due("left by its partner", x.of(0, PARTNER), 0);
        due("partner", x.of(1, PARTNER), 3);
        due("partner's partner", x.of(2, PARTNER), 2);
        due("speakers", x.state(5), 3);
        due("the later law", x.lawOf(LOUD), 8);
        due("quiet", x.lawOf(QUIET), 6);
        due("growth", x.lawOf(GROWTH), 5);
        due("lot", x.lawOf(LOT), 4);
    }

    private static void townAlone03() {
        HeldTongues x = new HeldTongues();
        x.person(WIFE, 99, 0, 1);
        x.person(CITIZEN, 99, 0, 1);
        x.pair(0, 1);
        x.set(LOUD, 9);
        x.seed(77);
        x.keep();
        x.days(3);
        x.prove(0, 4);
        x.sheet(1, 2, 3);
        x.shelf(0, 0, 1);
        x.act(0, 1, 5);
        due("a fault", Due.tell(x, "monk; monk"), -110);
        due("people behind a fault", x.many(0), 2);
        due("rows behind a fault", x.many(4), 4);
        due("day behind a fault", x.state(0), 3);
        due("law behind a fault", x.lawOf(LOUD), 9);
        due("tape behind a fault", x.many(5), 0);
        x.seed(78);
        due("another town", Due.tell(x, "monk;"), 1);
        due("need of all", x.state(3), 0);
        due("saved of all", x.state(4), 0);
        due("speakers", x.state(5), 1);
        due("pairs", x.many(1), 0);
        due("full ones", x.many(3), 0);
        due("no rows", x.many(4), 0);
        due("day anew", x.state(0), 0);
        due("heard anew", x.state(1), 0);
        due("geese anew", x.state(2), 0);
        due("law anew", x.lawOf(LOUD), 2);
        due("alone anew", x.of(0, PARTNER), 0);
        due("the trace stays", x.many(6), 2);
        due("the sheet stays", x.item(1, 2, 2), 0);
        due("nobody on the shelf", x.taken(0, 0), -11);
        due("z stays", x.seed(1), 78);
        due("what is kept stays", x.again(), 2);
        due("somebody on the shelf", x.taken(0, 0), 1);
    }

    private static void laws04and05() {
        HeldTongues x = new HeldTongues();
        int[] first = {2, 1, 3, 20};
        int[] most = {9, 9, 9, 99};
        for (int law = 0; law < 4; law++) {
            due("law at first", x.lawOf(law), first[law]);
            due("law below", x.set(law, -1), BAD);
            due("law above", x.set(law, most[law] + 1), BAD);
            due("law stays", x.set(law, most[law]), first[law]);
            due("law is set", x.lawOf(law), most[law]);
            due("law to 0", x.set(law, 0), most[law]);
            due("law is 0", x.lawOf(law), 0);
        }
        due("no such law", x.set(4, 1), BAD);
        due("no such law", x.set(-1, 1), BAD);
        due("no such law", x.lawOf(4), BAD);
        due("no such law", x.lawOf(-1), BAD);
    }

    private static void person06() {
        HeldTongues x = new HeldTongues();
        due("kind below", x.person(-1, 0, 0, 0), BAD);
        due("kind above", x.person(6, 0, 0, 0), BAD);
        due("need below", x.person(0, -1, 0, 0), BAD);
        due("need above", x.person(0, 100, 0, 0), BAD);
        due("saved below", x.person(0, 0, -1, 0), BAD);
        due("saved above", x.person(0, 0, 100, 0), BAD);
        due("voice below", x.person(0, 0, 0, -1), BAD);
        due("voice above", x.person(0, 0, 0, 10), BAD);
        due("nobody came", x.many(0), 0);
        for (int i = 0; i < 8; i++) {
            due("one more", x.person(i % 6, 99, 99, 9), i);
        }
        due("a ninth", x.person(0, 0, 0, 0), FULL);
        due("a bad ninth", x.person(0, 0, 0, 10), BAD);
        due("eight", x.many(0), 8);
    }

    private static void of07() {
        HeldTongues x = new HeldTongues();
        due("nobody", x.of(0, 0), BAD);
        x.person(PRIOR, 12, 34, 5);
        x.person(CHILD, 99, 0, 0);
        int[] want = {PRIOR, 12, 34, 5, 0, 1};
        for (int what = 0; what < want.length; what++) {
            due("of 0 " + what, x.of(0, what), want[what]);
        }
        due("what below", x.of(0, -1), BAD);
        due("what above", x.of(0, 6), BAD);
        due("no such one", x.of(2, 0), BAD);
        due("no such one", x.of(-1, 0), BAD);
        due("no such one", x.of(LEAST, 0), BAD);
        x.pair(1, 0);
        due("partner", x.of(0, PARTNER), 2);
        due("partner", x.of(1, PARTNER), 1);
        due("holds", x.of(0, SPEAKS), 0);
        due("speaks", x.of(1, SPEAKS), 1);
    }

    private static void doing(int kind, int says, int grows, int saves) {
        HeldTongues x = new HeldTongues();
        x.set(LOUD, 4);
        x.set(QUIET, 2);
        x.set(GROWTH, 7);
        x.person(kind, 0, 39, 5);
        due("says of kind " + kind, x.does(0, SAYS), 1000 + says);
        due("grows of kind " + kind, x.does(0, GROWS), 1000 + grows);
        due("saves of kind " + kind, x.does(0, SAVES), 1000 + saves);
    }

    private static void does08() {
        doing(CITIZEN, 5, 7, 1);
        doing(WIFE, 9, 8, 0);
        doing(HAWKER, 18, 12, 0);
        doing(MONK, 3, 3, 3);
        doing(PRIOR, 6, 1, 9);
        doing(CHILD, 5, 12, 1);
        HeldTongues x = new HeldTongues();
        x.set(QUIET, 9);
        x.set(GROWTH, 1);
        x.person(MONK, 0, 0, 8);
        x.person(PRIOR, 0, 9, 8);
        x.person(CHILD, 0, 0, 8);
        due("a monk says 0 at least", x.does(0, SAYS), 1000);
        due("a monk grows a half, cut", x.does(0, GROWS), 1000);
        due("a prior's tenth is cut", x.does(1, SAYS), 1000);
        due("a prior grows below 0", x.does(1, GROWS), 998);
        due("a prior saves", x.does(1, SAVES), 1030);
        x.change(1, 2, 10);
        due("a tenth", x.does(1, SAYS), 1001);
        x.change(1, 2, 99);
        due("a tenth", x.does(1, SAYS), 1009);
        for (int day = 0; day < 15; day++) {
            due("a child on day " + day, x.does(2, SAYS), day % 2 == 0 ? 1008 : 1001);
            due("a child on day " + day, x.does(2, SAVES), day % 7 == 0 ? 1001 : 1000);
            x.days(1);
        }
        due("what below", x.does(0, -1), BAD);
        due("what above", x.does(0, 3), BAD);
        due("no such one", x.does(3, 0), BAD);
        due("no such one", x.does(-1, 0), BAD);
    }

    private static void mind09() {
        HeldTongues x = new HeldTongues();
        x.person(WIFE, 5, 6, 7);
        x.person(WIFE, 5, 6, 7);
        x.pair(1, 0);
        due("mind", x.mind(0, PRIOR, 2), WIFE);
        due("kind", x.of(0, KIND), PRIOR);
        due("voice", x.of(0, VOICE), 2);
        due("need stays", x.of(0, NEED), 5);
        due("saved stays", x.of(0, SAVED), 6);
        due("partner stays", x.of(0, PARTNER), 2);
        due("holds still", x.of(0, SPEAKS), 0);
        due("the same again", x.mind(0, PRIOR, 2), PRIOR);
        due("kind below", x.mind(0, -1, 2), BAD);
        due("kind above", x.mind(0, 6, 2), BAD);
        due("voice below", x.mind(0, 0, -1), BAD);
        due("voice above", x.mind(0, 0, 10), BAD);
        due("no such one", x.mind(2, 0, 0), BAD);
        due("no such one", x.mind(-1, 0, 0), BAD);
        due("kind as it was", x.of(0, KIND), PRIOR);
    }

    private static void change10() {
        HeldTongues x = new HeldTongues();
        x.person(WIFE, 5, 6, 7);
        due("change need", x.change(0, 1, 99), 5);
        due("change saved", x.change(0, 2, 0), 6);
        due("need", x.of(0, NEED), 99);
        due("saved", x.of(0, SAVED), 0);
        due("need below", x.change(0, 1, -1), BAD);
        due("need above", x.change(0, 1, 100), BAD);
        due("saved below", x.change(0, 2, -1), BAD);
        due("saved above", x.change(0, 2, 100), BAD);
        due("what below", x.change(0, 0, 1), BAD);
        due("what above", x.change(0, 3, 1), BAD);
        due("no such one", x.change(1, 1, 1), BAD);
        due("no such one", x.change(-1, 1, 1), BAD);
        due("need stays", x.of(0, NEED), 99);
    }

    private static void pair11and12() {
        HeldTongues x = new HeldTongues();
        for (int i = 0; i < 4; i++) {
            x.person(CITIZEN, 0, 0, 0);
        }
        due("pair", x.pair(0, 1), 0);
        due("pair", x.pair(3, 2), 0);
        due("speakers", x.state(5), 1 + 8);
        due("the same", x.pair(0, 1), 1);
        due("the other first", x.pair(1, 0), 1);
        due("speakers", x.state(5), 2 + 8);
        due("partners change", x.pair(0, 2), 0);
        due("left alone", x.of(1, PARTNER), 0);
        due("left alone", x.of(3, PARTNER), 0);
        due("speakers", x.state(5), 1 + 2 + 8);
        due("with itself", x.pair(0, 0), BAD);
        due("no such one", x.pair(0, 4), BAD);
        due("no such one", x.pair(4, 0), BAD);
        due("no such one", x.pair(-1, 0), BAD);
        due("no such one", x.pair(0, -1), BAD);
        due("still partners", x.of(2, PARTNER), 1);
        due("one leaves", x.leave(2), 1);
        due("alone", x.of(2, PARTNER), 0);
        due("alone", x.of(0, PARTNER), 0);
        due("all speak", x.state(5), 15);
        due("leaves again", x.leave(2), 0);
        due("no such one", x.leave(4), BAD);
        due("no such one", x.leave(-1), BAD);
    }

    private static void spend13() {
        HeldTongues x = new HeldTongues();
        x.person(CITIZEN, 90, 20, 0);
        x.person(CITIZEN, 0, 99, 0);
        due("spend", x.spend(0), 99);
        due("the rest", x.of(0, SAVED), 11);
        due("spend again", x.spend(0), 99);
        due("the rest", x.of(0, SAVED), 11);
        due("spend all", x.spend(1), 99);
        due("nothing saved", x.of(1, SAVED), 0);
        due("no such one", x.spend(2), BAD);
        due("no such one", x.spend(-1), BAD);
    }

    private static void days14() {
        HeldTongues x = still();
        x.person(CITIZEN, 5, 0, 4);
        x.person(CITIZEN, 50, 0, 1);
        due("days 0", x.days(0), BAD);
        due("days 61", x.days(61), BAD);
        due("days -1", x.days(-1), BAD);
        due("no day", x.state(0), 0);
        due("each for itself", x.days(1), 5);
        all("needs", needs(x), 1, 49);
        x.pair(0, 1);
        due("one says of both", x.days(1), 13);
        // Of 8 it had 1 itself, of the other 7; that one then puts by 1.
        all("needs", needs(x), 0, 41);
        due("put by", x.of(1, SAVED), 1);
        due("put by", x.of(0, SAVED), 0);
        due("changed over", x.state(5), 2);
        due("the other", x.days(1), 15);
        all("needs", needs(x), 0, 39);
        due("nothing to put by", x.of(0, SAVED), 0);
        due("changed back", x.state(5), 1);
        // 8, then 2 are said and 1 is put by, thrice; then the last 6 are said.
        due("60 days", x.days(60), 15 + 36);
        due("days", x.state(0), 63);
    }

    private static void edgesOfDays14() {
        HeldTongues x = new HeldTongues();
        x.set(GROWTH, 9);
        x.person(HAWKER, 98, 0, 0);
        x.set(LOUD, 9);
        x.person(PRIOR, 1, 98, 0);
        x.set(QUIET, 9);
        x.pair(0, 1);
        x.set(LOUD, 0);
        due("nothing is said", x.days(1), 0);
        // 98 and 10 is 9 above 99; a half of 9 less 2 is 2.
        due("the geese", x.state(2), 9);
        all("needs", needs(x), 99, 2);
        due("saved is 99 at most", x.of(1, SAVED), 99);
        x.set(GROWTH, 0);
        x.days(1);
        due("0 at least, and a prior says by what it saved", x.of(1, NEED), 0);
        due("heard", x.state(1), 18);
        x.leave(1);
        x.days(1);
        due("0 at least", x.of(1, NEED), 0);
    }

    private static void held14() {
        HeldTongues x = new HeldTongues();
        x.set(GROWTH, 9);
        x.set(LOUD, 9);
        for (int i = 0; i < 8; i++) {
            x.person(HAWKER, 0, 0, 9);
        }
        for (int i = 0; i < 10; i++) {
            x.days(60);
        }
        due("all that grows is said", x.state(1), 600 * 8 * 19);
        due("heard is held", x.days(60), 99999);
        due("heard is held", x.state(1), 99999);
        due("sound is not held", x.sound(60), 60 * 8 * 19);
        for (int i = 0; i < 8; i++) {
            x.mind(i, CHILD, 9);
        }
        due("a child says 1 on odd days", x.sound(2), 8 * 9 + 8);
        for (int i = 0; i < 30; i++) {
            x.days(60);
        }
        due("geese are held", x.state(2), 99999);
        x.days(60);
        due("geese are held", x.state(2), 99999);
    }

    private static void seed15and16() {
        HeldTongues x = still();
        due("seed", x.seed(-5), 1);
        due("seed", x.seed(0), -5);
        due("a day of nobody", x.day(), 0);
        due("draws nothing", x.seed(0), 0);
        due("but is a day", x.state(0), 1);
        x.set(LOT, 0);
        int z = 12345 * 1103515245 + 12345;
        x.person(CITIZEN, 13, 0, 3);
        due("a day of one", x.day(), 3);
        due("draws all the same", x.seed(0), z);
        x.person(CITIZEN, 10, 0, 2);
        due("a day", x.day(), 5);
        due("two draws without a lot", x.seed(0), z);
        due("days", x.state(0), 3);
        due("heard", x.state(1), 8);
    }

    private static int seedFor(int one, int other, int count) {
        for (int seed = 0; seed < 100000; seed++) {
            int a = seed * 1103515245 + 12345;
            int b = a * 1103515245 + 12345;
            int c = b * 1103515245 + 12345;
            if ((a >>> 16) % count == one && (b >>> 16) % 100 == 49 && (c >>> 16) % count == other) {
                return seed;
            }
        }
        return 0;
    }

    private static void lots16() {
        HeldTongues x = still();
        for (int i = 0; i < 3; i++) {
            x.person(CITIZEN, 50, 0, 1 + i * 3);
        }
        x.set(LOT, 50);
        x.seed(seedFor(1, 0, 3));
        due("1 speaks twice", x.day(), 8 + 7);
        due("partners", x.of(1, PARTNER), 1);
        due("held its tongue", x.of(1, SPEAKS), 0);
        x.seed(seedFor(2, 1, 3));
        x.set(LOT, 49);
        due("49 is not below 49", x.day(), 2 + 7);
        due("so they are partners still", x.of(1, PARTNER), 1);
        x.set(LOT, 50);
        x.seed(seedFor(1, 1, 3));
        due("with itself: alone", x.day(), 1 + 4 + 7);
        due("alone", x.many(1), 0);
        x.seed(seedFor(2, 1, 3));
        int a = seedFor(2, 1, 3);
        for (int i = 0; i < 3; i++) {
            a = a * 1103515245 + 12345;
        }
        x.day();
        due("three draws with a lot", x.seed(1), a);
    }

    private static void luck17() {
        HeldTongues x = still();
        due("luck 0", x.luck(0), BAD);
        due("luck 31", x.luck(31), BAD);
        due("luck of nobody", x.luck(30), 0);
        x.person(CITIZEN, 90, 0, 1);
        x.person(CITIZEN, 0, 0, 9);
        x.set(LOT, 99);
        x.seed(7);
        int lucky = 0;
        int z = 7;
        for (int i = 0; i < 30; i++) {
            z = z * 1103515245 + 12345;
            int one = (z >>> 16) % 2;
            z = z * 1103515245 + 12345;
            boolean lot = (z >>> 16) % 100 < 99;
            if (lot) {
                z = z * 1103515245 + 12345;
            }
            lucky += lot && (z >>> 16) % 2 != one ? 1 : 0;
        }
        // As it is 1 is said; paired, whoever speaks, 2 or 18.
        due("luck", x.luck(30), lucky);
        due("luck is tried only", x.luck(30), lucky);
        due("z stays", x.seed(7), 7);
        due("no day", x.state(0), 0);
        due("no pair", x.many(1), 0);
        x.seed(seedFor(0, 1, 2));
        due("luck of one", x.luck(1), 1);
        x.seed(seedFor(1, 1, 2));
        due("no luck", x.luck(1), 0);
    }

    private static void state18() {
        HeldTongues x = still();
        x.person(CITIZEN, 10, 20, 3);
        x.person(CITIZEN, 30, 40, 3);
        x.person(CITIZEN, 1, 2, 3);
        x.pair(1, 0);
        int[] want = {0, 0, 0, 41, 62, 6};
        for (int what = 0; what < want.length; what++) {
            due("state " + what, x.state(what), want[what]);
        }
        due("what below", x.state(-1), BAD);
        due("what above", x.state(6), BAD);
        x.days(2);
        due("day", x.state(0), 2);
        due("heard", x.state(1), 13);
        due("need", x.state(3), 41 - 13 - 2);
        due("saved", x.state(4), 64);
    }

    private static void sound19() {
        HeldTongues x = still();
        due("sound of nobody", x.sound(60), 0);
        x.person(CITIZEN, 10, 0, 3);
        due("sound 0", x.sound(0), 0);
        due("sound 3", x.sound(3), 9);
        due("sound 4", x.sound(4), 10);
        due("sound 60", x.sound(60), 10);
        due("sound -1", x.sound(-1), BAD);
        due("sound 61", x.sound(61), BAD);
        due("tried only", x.of(0, NEED), 10);
        due("tried only", x.state(0), 0);
    }

    private static void eased20to22() {
        HeldTongues x = still();
        due("hush of nobody", x.hush(), 0);
        x.person(CITIZEN, 0, 0, 1);
        due("eased now", x.eased(0), 0);
        x.change(0, 1, 60);
        due("eased on the last", x.eased(0), 60);
        due("hush on the last", x.hush(), 60);
        x.change(0, 1, 61);
        due("not by then", x.eased(0), NONE);
        due("no hush", x.hush(), NONE);
        x.change(0, 1, 9);
        x.person(CITIZEN, 12, 0, 1);
        due("hush of all", x.hush(), 12);
        due("eased of one", x.eased(0), 9);
        due("tried only", x.state(0), 0);
        due("not full", x.full(0), NONE);
        x.change(0, 1, 99);
        due("full now", x.full(0), 0);
        x.change(0, 1, 39);
        x.mind(0, CITIZEN, 0);
        x.set(GROWTH, 1);
        due("full on the last", x.full(0), 60);
        x.change(0, 1, 38);
        due("not full by then", x.full(0), NONE);
        due("no such one", x.eased(2), BAD);
        due("no such one", x.eased(-1), BAD);
        due("no such one", x.full(2), BAD);
        due("no such one", x.full(-1), BAD);
    }

    private static void partnerFor23() {
        HeldTongues x = still();
        x.person(CITIZEN, 0, 0, 9);
        due("nobody else", x.partnerFor(0, 1), NONE);
        x.person(CITIZEN, 9, 0, 0);
        x.person(CITIZEN, 18, 0, 0);
        x.person(CITIZEN, 50, 0, 0);
        due("of several the least", x.partnerFor(0, 1), 2);
        due("two days: the other one's turn", x.partnerFor(0, 2), 2);
        due("three days", x.partnerFor(0, 3), 3);
        due("it speaks first", x.partnerFor(3, 1), NONE);
        due("then the other", x.partnerFor(3, 2), 0);
        x.pair(0, 2);
        due("not more than it is", x.partnerFor(0, 1), NONE);
        x.pair(2, 0);
        due("the same one, it first", x.partnerFor(0, 1), 2);
        due("tried only", x.of(2, SPEAKS), 1);
        due("n 0", x.partnerFor(0, 0), BAD);
        due("n 21", x.partnerFor(0, 21), BAD);
        due("n 20", x.partnerFor(0, 20), 3);
        due("no such one", x.partnerFor(4, 1), BAD);
        due("no such one", x.partnerFor(-1, 1), BAD);
    }

    private static void kindFor24() {
        HeldTongues x = still();
        x.set(LOUD, 0);
        x.person(MONK, 99, 0, 4);
        due("a hawker says most", x.kindFor(0, 1), HAWKER);
        x.change(0, 1, 0);
        due("a child's need grows most", x.kindFor(0, 1), CHILD);
        x.mind(0, MONK, 1);
        due("wife, hawker and child have 1 to say", x.kindFor(0, 1), WIFE);
        x.mind(0, MONK, 0);
        x.change(0, 1, 4);
        due("of several the least", x.kindFor(0, 1), CITIZEN);
        due("a child says 1 on odd days", x.kindFor(0, 2), CHILD);
        due("tried only", x.of(0, KIND), MONK);
        due("n 0", x.kindFor(0, 0), BAD);
        due("n 20", x.kindFor(0, 20), CHILD);
        due("n 21", x.kindFor(0, 21), BAD);
        due("no such one", x.kindFor(1, 1), BAD);
        due("no such one", x.kindFor(-1, 1), BAD);
    }

    private static void voiceFor25() {
        HeldTongues x = still();
        x.person(CITIZEN, 40, 0, 9);
        due("0 is enough", x.voiceFor(0, 1, 0), 0);
        due("just", x.voiceFor(0, 1, 5), 5);
        due("with 9", x.voiceFor(0, 20, 40), 2);
        due("with none", x.voiceFor(0, 20, 41), NONE);
        due("with none", x.voiceFor(0, 1, 10), NONE);
        due("with 9", x.voiceFor(0, 1, 9), 9);
        due("tried only", x.of(0, VOICE), 9);
        due("v below", x.voiceFor(0, 1, -1), BAD);
        due("v above", x.voiceFor(0, 1, 10000), BAD);
        due("v most", x.voiceFor(0, 1, 9999), NONE);
        due("n 0", x.voiceFor(0, 0, 0), BAD);
        due("n 21", x.voiceFor(0, 21, 0), BAD);
        due("no such one", x.voiceFor(1, 1, 0), BAD);
        due("no such one", x.voiceFor(-1, 1, 0), BAD);
    }

    private static void best26and27() {
        HeldTongues x = still();
        due("best of nobody", x.best(5), 0);
        due("no such one", x.bestOf(1, 0), BAD);
        x.person(CITIZEN, 9, 0, 9);
        x.person(CITIZEN, 9, 0, 0);
        x.person(CITIZEN, 9, 0, 0);
        due("the least partner", x.bestOf(1, 0), 2);
        due("best 1", x.best(1), 18);
        due("best 5", x.best(5), 18);
        due("of 5", x.bestOf(5, 2), 0);
        due("the least partner", x.bestOf(1, 0), 2);
        due("its partner", x.bestOf(1, 1), 1);
        due("alone", x.bestOf(1, 2), 0);
        due("n 0", x.best(0), BAD);
        due("n 6", x.best(6), BAD);
        due("n 0", x.bestOf(0, 0), BAD);
        due("n 6", x.bestOf(6, 0), BAD);
        due("no such one", x.bestOf(1, 3), BAD);
        due("no such one", x.bestOf(1, -1), BAD);
        due("tried only", x.many(1), 0);
        x.change(1, 1, 0);
        x.change(2, 1, 0);
        due("alone does as well", x.best(1), 9);
        due("alone rather than anybody", x.bestOf(1, 0), 0);
        x.pair(0, 1);
        due("anew", x.bestOf(1, 0), 0);
        x.mind(2, CITIZEN, 9);
        x.mind(0, CITIZEN, 0);
        x.change(1, 1, 9);
        // The lesser one speaks first, so 2 speaks for another on the second day only.
        due("the lesser one speaks first", x.best(1), 0);
        due("two days", x.best(2), 9);
        due("0 alone rather than with 2", x.bestOf(2, 0), 0);
        due("so 1 with 2", x.bestOf(2, 1), 3);
        due("so 2 with 1", x.bestOf(2, 2), 2);
    }

    private static void fits28() {
        HeldTongues x = still();
        x.person(CITIZEN, 20, 0, 7);
        x.sheet(0, 0, 0);
        due("all fit nothing", x.fits(0, 0, 0), 10);
        due("the least", x.fits(0, 0, 1), 0);
        x.sheet(0, 3, 2);
        x.put(0, 0, -1);
        x.put(0, 1, 0);
        due("nothing is left behind two", x.fits(0, 0, 0), 0);
        due("none", x.fits(0, 0, 1), NONE);
        x.change(0, 1, 12);
        due("6 to 9", x.fits(0, 0, 0), 4);
        due("the least", x.fits(0, 0, 1), 6);
        x.put(0, 0, 4);
        due("just 8", x.fits(0, 0, 0), 1);
        due("just 8", x.fits(0, 0, 1), 8);
        x.put(0, 0, -2);
        due("only -1 is any", x.fits(0, 0, 0), 0);
        x.put(0, 0, -1);
        x.put(0, 1, -1);
        due("any", x.fits(0, 0, 0), 10);
        due("tried only", x.of(0, VOICE), 7);
        due("tried only", x.of(0, NEED), 12);
        due("no such sheet", x.fits(4, 0, 0), BAD);
        due("no such sheet", x.fits(-1, 0, 0), BAD);
        due("no such one", x.fits(0, 1, 0), BAD);
        due("no such one", x.fits(1, -1, 0), BAD);
        due("no such what", x.fits(1, 0, 2), BAD);
        due("no such what", x.fits(1, 0, -1), BAD);
        due("missing", x.fits(1, 0, 0), -11);
    }

    private static void odds29() {
        HeldTongues x = new HeldTongues();
        due("odds 0 0", x.odds(0, 0, 0), 1);
        due("odds 0 0", x.odds(0, 0, 1), 1);
        x.set(LOT, 50);
        due("odds 4 2", x.odds(4, 2, 0), 3);
        due("odds 4 2", x.odds(4, 2, 1), 8);
        x.set(LOT, 0);
        due("never", x.odds(8, 1, 0), 0);
        due("never", x.odds(8, 1, 1), 1);
        due("ever", x.odds(8, 0, 0), 1);
        x.set(LOT, 99);
        due("odds 8 8", x.odds(8, 8, 0), 9227446944279201L);
        due("odds 8 8", x.odds(8, 8, 1), 10000000000000000L);
        due("odds 8 0", x.odds(8, 0, 0), 1);
        x.set(LOT, 51);
        due("odds 8 4", x.odds(8, 4, 0), 70L * 51 * 51 * 51 * 51 * 49 * 49 * 49 * 49 / 10);
        due("odds 8 4", x.odds(8, 4, 1), 1000000000000000L);
        due("n below", x.odds(-1, 0, 0), BAD);
        due("n above", x.odds(9, 0, 0), BAD);
        due("k below", x.odds(3, -1, 0), BAD);
        due("k above", x.odds(3, 4, 0), BAD);
        due("part below", x.odds(3, 3, -1), BAD);
        due("part above", x.odds(3, 3, 2), BAD);
    }

    private static void hope30() {
        HeldTongues x = new HeldTongues();
        due("hope 7", x.hope(7, 0), 7);
        due("hope 7", x.hope(7, 1), 5);
        due("hope 0", x.hope(0, 0), 0);
        due("hope 0", x.hope(0, 1), 1);
        x.set(LOT, 99);
        due("hope 99", x.hope(99, 0), 9801);
        due("hope 99", x.hope(99, 1), 100);
        x.set(LOT, 0);
        due("hope of nothing", x.hope(99, 0), 0);
        due("hope of nothing", x.hope(99, 1), 1);
        due("n below", x.hope(-1, 0), BAD);
        due("n above", x.hope(100, 0), BAD);
        due("part below", x.hope(1, -1), BAD);
        due("part above", x.hope(1, 2), BAD);
    }

    private static void rows31to33() {
        HeldTongues x = still();
        due("no such one", x.prove(0, 1), BAD);
        x.person(CITIZEN, 10, 5, 3);
        x.person(CITIZEN, 20, 0, 4);
        x.pair(1, 0);
        due("no row", x.row(0, 0), -9);
        due("prove", x.prove(0, 3), 3);
        due("rows", x.many(4), 3);
        int[] want = {9, 6, 8, 3, 6, 6, 2, 7, 8};
        for (int i = 0; i < want.length; i++) {
            due("row " + i / 3 + " " + i % 3, x.row(i / 3, i % 3), want[i]);
        }
        due("no row", x.row(3, 0), -9);
        due("no row", x.row(-1, 0), -9);
        due("no what", x.row(0, 3), -9);
        due("no what", x.row(0, -1), -9);
        due("alter", x.alterRow(2, 1, LEAST), 7);
        due("altered", x.row(2, 1), LEAST);
        due("alter no row", x.alterRow(3, 0, 1), -9);
        due("alter no row", x.alterRow(-1, 0, 1), -9);
        due("alter no what", x.alterRow(0, 3, 1), -9);
        due("alter no what", x.alterRow(0, -1, 1), -9);
        due("n 0", x.prove(0, 0), BAD);
        due("n 11", x.prove(0, 11), BAD);
        due("no such one", x.prove(2, 1), BAD);
        due("no such one", x.prove(-1, 1), BAD);
        due("rows stay", x.many(4), 3);
        due("ten", x.prove(1, 10), 10);
        due("fewer", x.prove(1, 1), 1);
        due("fewer", x.row(1, 0), -9);
        due("tried only", x.state(0), 0);
    }

    private static void judge34() {
        HeldTongues x = still();
        due("no such one", x.judge(0), BAD);
        x.person(CITIZEN, 30, 0, 3);
        x.person(CITIZEN, 30, 0, 3);
        due("no rows", x.judge(0), 0);
        due("no such one", x.judge(2), BAD);
        due("no such one", x.judge(-1), BAD);
        x.prove(0, 4);
        due("right", x.judge(0), 0);
        due("right for the other, too", x.judge(1), 0);
        for (int what = 0; what < 3; what++) {
            int was = x.row(3, what);
            x.alterRow(3, what, was + 1);
            due("wrong at last", x.judge(0), 4);
            x.alterRow(0, what, x.row(0, what) - 1);
            due("wrong at first", x.judge(0), 1);
            x.alterRow(0, what, x.row(0, what) + 1);
            x.alterRow(3, what, was);
        }
        due("right again", x.judge(0), 0);
        x.days(1);
        due("from how it is now", x.judge(0), 1);
        due("judged only", x.state(0), 1);
        x.keep();
        x.again();
        due("rows stay with again", x.many(4), 4);
    }

    private static void minds35() {
        HeldTongues x = new HeldTongues();
        for (int i = 0; i < 3; i++) {
            x.person(CITIZEN, 50, 0, 3);
        }
        x.sheet(0, 0, 4);
        x.put(0, 0, 7);
        x.put(0, 1, -1);
        x.put(0, 2, 127);
        x.put(0, 3, 99);
        due("minds", x.minds(0, 0, 0, 3), 3);
        all("needs", needs(x), 7, 0, 99);
        due("from one on", x.minds(0, 3, 1, 1), 1);
        all("needs", needs(x), 7, 99, 99);
        due("none", x.minds(0, 4, 2, 0), 0);
        due("no such sheet", x.minds(4, 0, 0, 1), BAD);
        due("no such sheet", x.minds(-1, 0, 0, 1), BAD);
        due("no such one", x.minds(0, 0, 3, 0), BAD);
        due("no such one", x.minds(1, 0, -1, 0), BAD);
        due("n below", x.minds(1, 0, 0, -1), BAD);
        due("n above", x.minds(1, 0, 0, 9), BAD);
        due("beyond the last", x.minds(1, 0, 1, 3), BAD);
        due("missing", x.minds(1, 9, 0, 1), -11);
        x.sheet(1, 1, 1);
        due("not bytes", x.minds(1, 9, 0, 1), -13);
        due("outside", x.minds(0, 5, 0, 0), -12);
        due("outside", x.minds(0, -1, 0, 0), -12);
        due("outside", x.minds(0, MOST, 0, 1), -12);
        due("not so many", x.minds(0, 3, 0, 2), -12);
        all("needs", needs(x), 7, 99, 99);
        x.sheet(0, 0, 8);
        Due.tell(x, "wife;wife;wife;wife;wife;wife;wife;wife need 5;");
        due("all eight", x.minds(0, 0, 0, 8), 8);
        due("the last", x.of(7, NEED), 0);
        due("beyond the last", x.minds(0, 0, 0, 9), BAD);
    }

    private static void sheets36to38() {
        HeldTongues x = new HeldTongues();
        int[] narrowed = {(byte) 100000, (short) 100000, 100000, 100000};
        for (int sort = 0; sort < 4; sort++) {
            due("sheet", x.sheet(sort, sort, 40), 1);
            due("all 0", x.item(sort, sort, 39), 0);
            due("put", x.put(sort, 39, 100000), 1);
            due("item", x.item(sort, sort, 39), narrowed[sort]);
            due("put", x.put(sort, 0, -1), 1);
            due("item", x.item(sort, sort, 0), -1);
            due("of another sort", x.item(sort, (sort + 1) % 4, 99), -13);
            due("put outside", x.put(sort, 40, 1), -12);
            due("put outside", x.put(sort, -1, 1), -12);
            due("item outside", x.item(sort, sort, 40), -12);
            due("item outside", x.item(sort, sort, -1), -12);
            due("made anew", x.sheet(sort, sort, 40), 1);
            due("all 0", x.item(sort, sort, 0), 0);
        }
        due("of 41", x.sheet(0, 0, 41), BAD);
        due("of -1", x.sheet(0, 0, -1), -14);
        due("of the least", x.sheet(0, 0, LEAST), -14);
        due("no such sheet", x.sheet(4, 0, -1), BAD);
        due("no such sheet", x.sheet(-1, 0, -1), BAD);
        due("no such sort", x.sheet(0, 4, -1), BAD);
        due("no such sort", x.sheet(0, -2, -1), BAD);
        due("as it was", x.item(0, 0, 39), 0);
        due("missing, n counts nothing", x.sheet(0, -1, 41), 1);
        due("missing", x.put(0, 0, 1), -11);
        due("missing", x.item(0, 1, 0), -11);
        due("of none", x.sheet(0, 0, 0), 1);
        due("of none", x.put(0, 0, 1), -12);
        due("no such sheet", x.put(4, 0, 1), BAD);
        due("no such sheet", x.put(-1, 0, 1), BAD);
        due("no such sheet", x.item(4, 0, 0), BAD);
        due("no such sheet", x.item(-1, 0, 0), BAD);
        due("no such sort", x.item(1, 4, 0), BAD);
        due("no such sort", x.item(1, -1, 0), BAD);
    }

    private static void shelves39and40() {
        HeldTongues x = new HeldTongues();
        due("nobody there", x.shelf(0, 0, 0), BAD);
        for (int kind = 0; kind < 6; kind++) {
            x.person(kind, 0, 0, 3);
        }
        int[] under = {1, 1 + 2, 1 + 4, 1 + 2 + 8, 1 + 4 + 16, 1 + 32};
        for (int kind = 0; kind < 6; kind++) {
            due("shelf", x.shelf(1, 0, kind), 1);
            for (int as = 0; as < 6; as++) {
                due("kind " + kind + " as " + as, x.taken(1, as), (under[kind] >> as & 1) == 1 ? kind : -13);
            }
            for (int as = 10; as <= 13; as++) {
                due("no row", x.taken(1, as), -13);
            }
        }
        x.mind(5, HAWKER, 3);
        due("as it is now", x.taken(1, WIFE), 5);
        due("as it is now", x.taken(1, CHILD), -13);
        x.sheet(2, 2, 7);
        due("a row", x.shelf(1, 1, 2), 1);
        due("its items", x.taken(1, 12), 7);
        due("of another sort", x.taken(1, 10), -13);
        due("no thing of a kind", x.taken(1, 0), -13);
        x.sheet(2, 0, 3);
        due("the row itself is held", x.taken(1, 12), 7);
        x.shelf(1, 1, 2);
        due("the new row", x.taken(1, 10), 3);
        due("a missing row", x.shelf(1, 1, 3), 1);
        due("is nothing", x.taken(1, 12), -11);
        x.shelf(1, 0, 0);
        due("nothing", x.shelf(1, 2, 99), 1);
        due("nothing", x.taken(1, 0), -11);
        due("no such shelf", x.shelf(4, 2, 0), BAD);
        due("no such shelf", x.shelf(-1, 2, 0), BAD);
        due("no such what", x.shelf(0, 3, 0), BAD);
        due("no such what", x.shelf(0, -1, 0), BAD);
        due("no such one", x.shelf(0, 0, 6), BAD);
        due("no such one", x.shelf(0, 0, -1), BAD);
        due("no such sheet", x.shelf(0, 1, 4), BAD);
        due("no such sheet", x.shelf(0, 1, -1), BAD);
        due("no such shelf", x.taken(4, 0), BAD);
        due("no such shelf", x.taken(-1, 0), BAD);
        int[] noSuch = {-1, 6, 9, 14};
        for (int as : noSuch) {
            due("no such as", x.taken(0, as), BAD);
        }
    }

    /** What the acts of one of a kind, the third one with a VOICE, answer to 10. */
    private static HeldTongues actor(int kind, int voice) {
        HeldTongues x = new HeldTongues();
        for (int i = 0; i < 3; i++) {
            x.person(kind, 0, 0, voice);
        }
        x.shelf(0, 0, 2);
        return x;
    }

    private static void acted(String name, HeldTongues x, int act, int want, int... bodies) {
        due(name, x.act(0, act, 10), want);
        all("the trace of " + name, traceOf(x), bodies);
    }

    private static void acts41and42() {
        HeldTongues citizen = actor(CITIZEN, 5);
        acted("citizen mutters", citizen, 0, 22, 10);
        acted("citizen says", citizen, 1, 49, 11, 10);
        acted("citizen parts", citizen, 2, 3, 12);
        acted("citizen shouts", citizen, 3, 49 ^ 60, 13, 11, 10);
        HeldTongues wife = actor(WIFE, 5);
        acted("wife mutters", wife, 0, 22, 10);
        acted("wife says", wife, 1, 147, 20, 11, 10);
        acted("wife parts", wife, 2, 3, 12);
        acted("wife shouts", wife, 3, 147 ^ 60, 13, 20, 11, 10);
        HeldTongues monk = actor(MONK, 5);
        acted("monk mutters", monk, 0, -22, 30, 10);
        acted("monk says", monk, 1, -39, 11, 30, 10);
        acted("monk parts", monk, 2, 3, 12);
        acted("monk shouts", monk, 3, -39 ^ 60, 31, 13, 11, 30, 10, 12);
        HeldTongues prior = actor(PRIOR, 5);
        int priorSays = -49 ^ -22;
        acted("prior mutters", prior, 0, -27, 40, 30, 10);
        acted("prior says", prior, 1, priorSays, 41, 11, 40, 30, 10, 40, 30, 10);
        acted("prior parts", prior, 2, 3, 12);
        acted("prior shouts", prior, 3, priorSays ^ 60, 31, 13, 41, 11, 40, 30, 10, 40, 30, 10, 12);
        HeldTongues hawker = actor(HAWKER, 5);
        acted("hawker mutters", hawker, 0, 29, 51, 10);
        acted("hawker says", hawker, 1, 189, 20, 11, 51, 10);
        acted("hawker parts", hawker, 2, 8, 50, 12);
        acted("hawker shouts", hawker, 3, 189 ^ 60, 13, 20, 11, 51, 10);
        HeldTongues child = actor(CHILD, 5);
        acted("child mutters", child, 0, 22, 10);
        acted("child says", child, 1, 49, 11, 10);
        acted("child parts", child, 2, 17, 61, 12, 10);
        acted("child shouts", child, 3, 9 - (49 ^ 60), 60, 13, 11, 10);
        due("trace below", child.trace(-1), NONE);
        due("trace above", child.trace(4), NONE);
        due("trace beyond what is kept", child.trace(30), NONE);
    }

    private static void parted41() {
        acted("citizen by 0", actor(CITIZEN, 2), 2, -15, 12);
        acted("monk by 0", actor(MONK, 2), 3, -15, 31, 13, 11, 30, 10, 12);
        acted("prior by 0", actor(PRIOR, 2), 3, -15, 31, 13, 41, 11, 40, 30, 10, 40, 30, 10, 12);
        acted("hawker by 0", actor(HAWKER, 2), 2, -15, 50, 12);
        acted("child by 0", actor(CHILD, 2), 2, -15, 61, 12);
        acted("monk by 1", actor(MONK, 3), 3, (-41 ^ 60) + 2, 31, 13, 11, 30, 10, 12);
        HeldTongues again = actor(MONK, 2);
        acted("monk by 0", again, 2, -15, 12);
        acted("behind that", again, 0, -22, 30, 10);
        acted("child shouts", actor(CHILD, 2), 3, 9 - (46 ^ 60), 60, 13, 11, 10);
        HeldTongues x = actor(CITIZEN, 1);
        due("cut towards 0", x.act(0, 2, 7), -7);
        due("wraps", x.act(0, 2, LEAST), LEAST);
        due("wraps", x.act(0, 0, MOST), LEAST + 11);
        x.mind(2, HAWKER, 4);
        due("cut towards 0", x.act(0, 2, -7), -7 + 2);
        due("wraps", x.act(0, 2, MOST), -1 + 2);
        x.mind(2, CITIZEN, 5);
        due("cut towards 0", x.act(0, 2, -7), -2);
    }

    private static void noAct41() {
        HeldTongues x = actor(CITIZEN, 5);
        int[][] wrong = {{4, 0}, {-1, 0}, {0, 4}, {0, -1}, {1, 0}};
        for (int[] call : wrong) {
            x.act(0, 0, 1);
            due("there is a trace", x.many(6), 1);
            due("no act", x.act(call[0], call[1], 5), 0);
            due("no trace", x.many(6), 0);
            due("no trace", x.trace(0), NONE);
        }
        x.act(0, 0, 1);
        x.sheet(0, 0, 3);
        x.shelf(1, 1, 0);
        due("a row", x.act(1, 0, 5), 0);
        due("no trace", x.many(6), 0);
        x.keep();
        Due.tell(x, "citizen;citizen;");
        due("no such one any more", x.act(0, 0, 5), 0);
        due("no such one any more", x.taken(0, 0), -11);
        x.again();
        due("there again", x.act(0, 0, 5), 17);
        x.mind(2, MONK, 5);
        due("of the kind that it is now", x.act(0, 0, 5), -17);
    }

    private static void many43() {
        HeldTongues x = new HeldTongues();
        for (int i = 0; i < 5; i++) {
            x.person(CITIZEN, i < 3 ? 99 : 98, 0, 3);
        }
        x.pair(0, 4);
        x.pair(3, 1);
        x.prove(0, 7);
        x.feed(0, 6);
        x.shelf(0, 0, 0);
        x.act(0, 3, 1);
        int[] want = {5, 2, 3, 3, 7, 6, 3};
        for (int what = 0; what < want.length; what++) {
            due("many " + what, x.many(what), want[what]);
        }
        due("what below", x.many(-1), BAD);
        due("what above", x.many(7), BAD);
    }

    private static void keep44and45() {
        HeldTongues x = still();
        x.person(CITIZEN, 30, 4, 3);
        x.person(WIFE, 30, 4, 3);
        x.pair(1, 0);
        x.days(1);
        x.seed(55);
        due("keep", x.keep(), 1);
        x.feed(0, 3);
        x.prove(0, 2);
        x.sheet(0, 0, 5);
        x.shelf(0, 1, 0);
        x.shelf(1, 0, 1);
        x.act(1, 0, 0);
        x.day();
        x.set(LOUD, 9);
        x.mind(0, CHILD, 1);
        x.change(0, 2, 77);
        x.leave(0);
        x.person(MONK, 1, 1, 1);
        due("again", x.again(), 2);
        due("day", x.state(0), 1);
        due("heard", x.state(1), 10);
        due("need", x.of(0, NEED), 29);
        due("saved", x.of(0, SAVED), 5);
        due("kind", x.of(0, KIND), CITIZEN);
        due("voice", x.of(0, VOICE), 3);
        due("partner", x.of(0, PARTNER), 2);
        due("speaks", x.of(0, SPEAKS), 1);
        due("law", x.lawOf(LOUD), 2);
        due("growth", x.lawOf(GROWTH), 0);
        due("z", x.seed(56), 55);
        due("tape", x.many(5), 3);
        due("rows", x.many(4), 2);
        due("sheet", x.item(0, 0, 4), 0);
        due("shelf", x.taken(0, 10), 5);
        due("trace", x.many(6), 1);
        x.days(5);
        due("what was kept stays", x.again(), 2);
        due("what was kept stays", x.state(0), 1);
        x.person(MONK, 1, 1, 1);
        x.keep();
        x.days(1);
        due("the latest", x.again(), 3);
        x.change(0, 1, 1);
        x.again();
        due("a copy was kept", x.of(0, NEED), 29);
    }

    public static void main(String[] args) {
        newObject01();
        feed02();
        texts03();
        faults03();
        town03();
        townAlone03();
        laws04and05();
        person06();
        of07();
        does08();
        mind09();
        change10();
        pair11and12();
        spend13();
        days14();
        edgesOfDays14();
        held14();
        seed15and16();
        lots16();
        luck17();
        state18();
        sound19();
        eased20to22();
        partnerFor23();
        kindFor24();
        voiceFor25();
        best26and27();
        fits28();
        odds29();
        hope30();
        rows31to33();
        judge34();
        minds35();
        sheets36to38();
        shelves39and40();
        acts41and42();
        parted41();
        noAct41();
        many43();
        keep44and45();
        DUE.end();
    }
}
