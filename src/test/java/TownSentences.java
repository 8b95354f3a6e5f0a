/** The document's words on refusals and numbers, and its part 1: laws, people and a day. */
final class TownSentences extends Asking {
    TownSentences(Sentences doc) {
        super(doc);
    }

    @Override
    void askAll() {
        calls();
        refusals();
        firstNamed();
        numbers();
        laws();
        heldHeard();
        heldGeese();
        countsAreNotHeldWhereTried();
        people();
        partners();
        says();
        grows();
        saves();
        growing();
        saying();
        savingOnADay();
        changingOver();
    }

    private void calls() {
        sentence("An object is used for at most 512 calls after it has been made; what later calls answer is free.");
        HeldTongues x = new HeldTongues();
        x.person(WIFE, 0, 0, 0);
        for (int i = 2; i <= 511; i++) {
            x.days(60);
        }
        due("the 512th call", x.state(DAY), 510 * 60);
        HeldTongues y = new HeldTongues();
        for (int i = 1; i <= 511; i++) {
            y.sheet(i % 4, 3, 40);
        }
        due("the 512th call", y.put(511 % 4, 39, 1), 1);
        HeldTongues w = new HeldTongues();
        for (int i = 1; i <= 511; i++) {
            w.keep();
        }
        due("the 512th call", w.again(), 0);
    }

    private void refusals() {
        sentence("Answers below 0, where not told otherwise, are refusals; such a call changes nothing "
                + "(but that THE TAPE is used up by town());");
        // The refusals of each promise are asked for with it; these are one of each number.
        refused(BAD, "set", 0, 10);
        changesNothing(Twins::full, FULL, "person", 0, 0, 0, 0);
        changesNothing(Twins::full, FULL, "feed", ';', 1);
        changesNothing(HeldTongues::new, NONE, "again");
        refused(NO_ROW, "alterRow", Twins.ROWS, 0, 1);
        refused(NOTHING, "put", 2, 0, 1);
        refused(OUTSIDE, "put", 0, 5, 1);
        refused(ANOTHER, "minds", 1, 0, 0, 1);
        refused(BELOW_ZERO, "sheet", 0, 0, -1);
        HeldTongues x = Twins.usual();
        due("a fault", x.town(), -105);
        due("the tape is used up by that", x.many(BYTES), 0);
        Due.feedAll(x, "monk;pri");
        HeldTongues twin = Twins.usual();
        due("all else is as it was", Twins.allOf(x).equals(Twins.allOf(twin)) ? 1 : 0, 1);
    }

    private void firstNamed() {
        sentence("of several the first named: BAD (-1) there is no such thing, or a number is not as told; "
                + "FULL (-2); NONE (-3); and what the host refuses: -11 nothing where something is asked, "
                + "-12 a place outside, -13 a thing of another sort or kind, -14 a size below 0, -15 parted by 0.");
        due("BAD", HeldTongues.BAD, -1);
        due("FULL", HeldTongues.FULL, -2);
        due("NONE", HeldTongues.NONE, -3);
        changesNothing(Twins::full, BAD, "feed", ';', 9);
        changesNothing(Twins::full, BAD, "feed", ';', 0);
        changesNothing(Twins::full, BAD, "person", 6, 0, 0, 0);
        changesNothing(Twins::full, BAD, "person", 0, 100, 0, 0);
        changesNothing(Twins::full, BAD, "person", 0, 0, -1, 0);
        changesNothing(Twins::full, BAD, "person", 0, 0, 0, 10);
        refused(BAD, "sheet", 4, 0, -1);
        refused(BAD, "sheet", 0, 4, -1);
        refused(BAD, "sheet", 0, -2, -1);
        refused(BAD, "fits", 2, 4, 0);
        refused(BAD, "fits", 2, 0, 2);
        refused(BAD, "minds", 2, 9, 4, 1);
        refused(BAD, "minds", 2, 9, 0, 9);
        refused(BAD, "minds", 1, 9, 3, 2);
        refused(NOTHING, "minds", 2, -1, 0, 1);
        refused(ANOTHER, "minds", 1, -1, 0, 1);
        refused(ANOTHER, "minds", 1, 0, 0, 4);
        refused(BAD, "item", 2, 4, -1);
        refused(BAD, "item", 1, 4, -1);
        refused(NOTHING, "item", 2, 0, -1);
        refused(ANOTHER, "item", 1, 0, -1);
        refused(BAD, "put", 4, -1, 1);
        refused(NOTHING, "put", 2, -1, 1);
        refused(BAD, "taken", 2, 6);
        refused(BAD, "taken", 1, 14);
        refused(NOTHING, "taken", 2, 10);
        refused(BAD, "voiceFor", 0, 1, 10000);
        refused(BAD, "voiceFor", 4, 1, 9999);
        refused(BAD, "partnerFor", 4, 1);
    }

    private void numbers() {
        sentence("Sets are told by bits.");
        due("the empty set", new HeldTongues().state(SPEAKERS), 0);
        HeldTongues x = stillWith(8, 0, 0);
        due("the set of all eight", x.state(SPEAKERS), 255);
        x.pair(7, 0);
        due("without the first", x.state(SPEAKERS), 254);
        x.pair(0, 7);
        due("without the last", x.state(SPEAKERS), 127);

        sentence("Quotients are cut towards 0.");
        HeldTongues y = stillWith(2, 0, 3);
        y.shelf(0, 0, 1);
        due("7 by 2", y.act(0, 2, 7), 3);
        due("-7 by 2", y.act(0, 2, -7), -3);
        due("-1 by 2", y.act(0, 2, -1), 0);
        y.person(CITIZEN, 0, 0, 0);
        y.shelf(0, 0, 2);
        due("7 by -2", y.act(0, 2, 7), -3);
        due("-7 by -2", y.act(0, 2, -7), 3);

        sentence("A part of a fraction: 0 above the line, 1 below it, without a common divisor, below above 0 "
                + "(0 is 0 by 1).");
        HeldTongues z = new HeldTongues();
        fraction("20 by 100", z.hope(1, 0), z.hope(1, 1), 1, 5);
        fraction("100 by 100", z.hope(5, 0), z.hope(5, 1), 1, 1);
        fraction("0 by 100", z.hope(0, 0), z.hope(0, 1), 0, 1);
        z.set(LOT, 99);
        fraction("99 by 100 has none", z.hope(1, 0), z.hope(1, 1), 99, 100);
        z.set(LOT, 0);
        fraction("0 by 100 to the eighth", z.odds(8, 8, 0), z.odds(8, 8, 1), 0, 1);
        fraction("100 to the eighth by itself", z.odds(8, 0, 0), z.odds(8, 0, 1), 1, 1);
    }

    private void fraction(String name, long above, long below, long wantAbove, long wantBelow) {
        due(name + ", above", above, wantAbove);
        due(name + ", below", below, wantBelow);
    }

    private void laws() {
        sentence("LAWS: 0 LOUD (0 to 9; 2 at first), 1 QUIET (0 to 9; 1), 2 GROWTH (0 to 9; 3), "
                + "3 LOT (0 to 99 of a hundred; 20).");
        int[] first = {2, 1, 3, 20};
        int[] most = {9, 9, 9, 99};
        HeldTongues x = new HeldTongues();
        for (int law = 0; law < 4; law++) {
            due("at first", x.lawOf(law), first[law]);
            refused(BAD, "set", law, -1);
            refused(BAD, "set", law, most[law] + 1);
            refused(BAD, "set", law, LEAST);
            refused(BAD, "set", law, MOST);
            due("the least", x.set(law, 0), first[law]);
            due("is taken", x.lawOf(law), 0);
            due("the most", x.set(law, most[law]), 0);
            due("is taken", x.lawOf(law), most[law]);
            due("the others stay", x.lawOf((law + 1) % 4), law == 3 ? 9 : first[law + 1]);
        }
        HeldTongues lots = stillWith(2, 0, 0);
        lots.set(LOT, 26);
        due("26 is drawn behind seed 1: not below 26", lots.day() + lots.many(PAIRS), 0);
        lots.seed(1);
        lots.set(LOT, 27);
        due("but below 27", lots.day() + lots.many(PAIRS), 1);
    }

    /** HEARD is 99864 behind 657 days; then there are eight citizens with nothing to say. */
    private HeldTongues nearlyHeld() {
        HeldTongues x = new HeldTongues();
        x.set(GROWTH, 9);
        x.set(LOUD, 9);
        for (int i = 0; i < 8; i++) {
            x.person(HAWKER, 0, 0, 9);
        }
        for (int i = 0; i < 10; i++) {
            x.days(60);
        }
        x.days(57);
        x.set(GROWTH, 0);
        for (int i = 0; i < 8; i++) {
            x.mind(i, CITIZEN, 9);
        }
        return x;
    }

    private void heldHeard() {
        sentence("DAY, HEARD (all that was said), GEESE (what went to the geese; all 0 at first; "
                + "these two held to 99999).");
        HeldTongues none = new HeldTongues();
        due("DAY at first", none.state(DAY), 0);
        due("HEARD at first", none.state(HEARD), 0);
        due("GEESE at first", none.state(GEESE), 0);
        HeldTongues x = nearlyHeld();
        due("657 days of 8 times 19", x.state(HEARD), 99864);
        x.change(0, NEED, 9);
        x.days(1);
        for (int i = 0; i < 7; i++) {
            x.change(i, NEED, 9);
        }
        x.days(1);
        due("9 and 63 more", x.state(HEARD), 99936);
        x.keep();
        sayAtOnce(x, 62);
        due("one below", x.days(1), 99998);
        sayAtOnce(x, 1);
        due("just 99999", x.days(1), 99999);
        sayAtOnce(x, 1);
        due("held", x.days(1), 99999);
        x.again();
        sayAtOnce(x, 63);
        due("just 99999 at once", x.days(1), 99999);
        x.again();
        sayAtOnce(x, 64);
        due("held in the day that goes beyond", x.days(1), 99999);
        due("DAY is not held to what these are", x.state(DAY), 660);
    }

    private void sayAtOnce(HeldTongues x, int said) {
        for (int i = 0; i < 8; i++) {
            int part = Math.min(9, Math.max(0, said - 9 * i));
            x.change(i, NEED, part);
        }
    }

    private void heldGeese() {
        HeldTongues x = stillWith(8, 99, 0);
        x.set(GROWTH, 9);
        for (int i = 0; i < 23; i++) {
            x.days(60);
        }
        x.days(8);
        due("1388 days of 8 times 9", x.state(GEESE), 99936);
        x.keep();
        x.change(0, NEED, 90);
        x.days(1);
        due("63 more, just 99999", x.state(GEESE), 99999);
        x.days(1);
        due("held", x.state(GEESE), 99999);
        x.again();
        x.change(0, NEED, 89);
        x.change(1, NEED, 91);
        x.days(1);
        due("55 more", x.state(GEESE), 99936 + 55);
        x.again();
        x.days(1);
        due("held amid the day that goes beyond", x.state(GEESE), 99999);
        due("nothing was heard", x.state(HEARD), 0);
        due("DAY is not held", x.state(DAY), 1389);
    }

    private void countsAreNotHeldWhereTried() {
        sentence("SOUND by n: how much more is HEARD behind n DAYS (were it not held).");
        HeldTongues x = nearlyHeld();
        x.change(0, NEED, 9);
        x.change(1, NEED, 99);
        x.mind(1, CITIZEN, 0);
        for (int i = 0; i < 9; i++) {
            x.change(2, NEED, 99);
            x.days(2);
        }
        due("HEARD is held", x.state(HEARD), 99999);
        x.change(2, NEED, 0);
        x.change(0, NEED, 9);
        due("sound", x.sound(1), 9);
        due("sound of no day", x.sound(0), 0);
        due("rows", x.prove(0, 1) * 100 + x.row(0, 2), 109);
        due("voice for", x.voiceFor(0, 1, 7), 7);
        due("partner for", x.partnerFor(0, 1), 1);
        due("kind for", x.kindFor(0, 1), HAWKER);
        due("best", x.best(1), 18);
        x.set(LOT, 99);
        due("luck is told by what is said", x.luck(30) > 0 ? 1 : 0, 1);
        x.set(LOT, 0);
        due("a day by draws", x.day(), 9);
        due("HEARD is held still", x.state(HEARD), 99999);
    }

    private void people() {
        sentence("PEOPLE, 8 at most, numbered as they come, each of a KIND: 0 citizen; 1 wife, 2 monk, "
                + "5 child (under citizen); 3 hawker (under wife); 4 prior (under monk);");
        HeldTongues x = new HeldTongues();
        for (int i = 0; i < 8; i++) {
            due("the number", x.person(i % 6, 0, 0, 0), i);
            due("the kind", x.of(i, KIND), i % 6);
        }
        due("a ninth", x.person(0, 0, 0, 0), FULL);
        due("eight", x.many(PEOPLE), 8);
        due("a ninth in a text", Due.tell(x, "wife;wife;wife;wife;wife;wife;wife;wife;monk;"), -140);
        due("eight in a text", Due.tell(x, "wife;wife;wife;wife;wife;wife;wife;wife;"), 8);
        due("a ninth behind a text", x.person(0, 0, 0, 0), FULL);
        Due.tell(x, "wife;");
        due("numbers begin anew", x.person(0, 0, 0, 0), 1);
        int[] under = {1, 1 + 2, 1 + 4, 1 + 2 + 8, 1 + 4 + 16, 1 + 32};
        x.shelf(0, 0, 1);
        for (int i = 0; i < 36; i++) {
            x.mind(1, i / 6, 0);
            boolean is = (under[i / 6] >> i % 6 & 1) == 1;
            due(i / 6 + " taken for " + i % 6, x.taken(0, i % 6), is ? 1 : ANOTHER);
        }

        sentence("with NEED (0 to 99), SAVED (0 to 99), a VOICE (0 to 9),");
        int[][] wrong = {{-1, 0, 0}, {100, 0, 0}, {0, -1, 0}, {0, 100, 0}, {0, 0, -1}, {0, 0, 10}};
        for (int[] w : wrong) {
            refused(BAD, "person", CITIZEN, w[0], w[1], w[2]);
        }
        for (int most = 0; most < 2; most++) {
            HeldTongues y = new HeldTongues();
            due("the edge is taken", y.person(CITIZEN, 99 * most, 99 * most, 9 * most), 0);
            due("NEED", y.of(0, NEED), 99 * most);
            due("SAVED", y.of(0, SAVED), 99 * most);
            due("VOICE", y.of(0, VOICE), 9 * most);
        }
    }

    /** 1 if all have their partners by the document. */
    private int partnersAgree(HeldTongues x) {
        for (int i = 0; i < x.many(PEOPLE); i++) {
            int other = x.of(i, PARTNER) - 1;
            if (other == -1 && x.of(i, SPEAKS) != 1) {
                return 0;
            }
            if (other >= 0 && (other == i || x.of(other, PARTNER) != i + 1
                    || x.of(i, SPEAKS) + x.of(other, SPEAKS) != 1)) {
                return 0;
            }
        }
        return 1;
    }

    private void partners() {
        sentence("and a PARTNER (one of the others; each has another one for its PARTNER just if that has it), "
                + "or it is ALONE (as it comes).");
        HeldTongues x = stillWith(3, 9, 1);
        due("alone as it comes", x.of(0, PARTNER) + x.of(1, PARTNER) + x.of(2, PARTNER), 0);
        int[][] chain = {{0, 1}, {1, 2}, {2, 0}, {0, 2}, {0, 1}, {2, 1}};
        for (int[] two : chain) {
            x.pair(two[0], two[1]);
            due("partner", x.of(two[0], PARTNER), two[1] + 1);
            due("partner", x.of(two[1], PARTNER), two[0] + 1);
            due("the third is alone", x.of(3 - two[0] - two[1], PARTNER), 0);
            due("all agree", partnersAgree(x), 1);
        }
        due("one more is alone as it comes", x.person(CITIZEN, 0, 0, 0) + x.of(3, PARTNER), 3);
        x.set(LOT, 99);
        for (int i = 0; i < 10; i++) {
            x.day();
            due("all agree behind a day by draws", partnersAgree(x), 1);
        }
        HeldTongues told = new HeldTongues();
        Due.tell(told, "wife;wife;wife;wife;pair 0 with 1;pair 1 with 2;pair 3 with 1;");
        due("all agree in a text", partnersAgree(told) * 10 + told.many(PAIRS), 11);

        sentence("Of two PARTNERS one SPEAKS, the other one HOLDS its tongue.");
        HeldTongues y = stillWith(2, 9, 1);
        y.pair(1, 0);
        due("one speaks", y.of(1, SPEAKS), 1);
        due("the other one holds", y.of(0, SPEAKS), 0);
        y.days(1);
        due("the next day", y.of(1, SPEAKS), 0);
        due("the next day", y.of(0, SPEAKS), 1);

        sentence("One that is ALONE SPEAKS.");
        HeldTongues z = stillWith(3, 9, 1);
        due("as they come", z.state(SPEAKERS), 7);
        z.pair(0, 1);
        z.leave(0);
        due("the one that held, left", z.state(SPEAKERS), 7);
        z.pair(0, 1);
        z.leave(1);
        due("the one that held leaves", z.state(SPEAKERS), 7);
        z.pair(0, 1);
        z.pair(2, 0);
        due("the one that held, its partner taken", z.state(SPEAKERS), 6);
        z.pair(1, 2);
        due("the one that held, its partner taken", z.state(SPEAKERS), 3);
        z.days(1);
        due("alone it speaks the next day, too", z.of(0, SPEAKS), 1);
    }

    private HeldTongues one(int kind, int saved, int voice) {
        HeldTongues x = new HeldTongues();
        x.person(kind, 0, saved, voice);
        return x;
    }

    private void does(HeldTongues x, int what, int want) {
        due("does " + what, x.does(0, what), 1000 + want);
    }

    private void says() {
        sentence("SAYS: citizen: VOICE.");
        does(one(CITIZEN, 99, 0), SAYS, 0);
        does(one(CITIZEN, 99, 9), SAYS, 9);
        sentence("wife: as citizen, and LOUD.");
        HeldTongues wife = one(WIFE, 99, 9);
        does(wife, SAYS, 11);
        wife.set(LOUD, 0);
        does(wife, SAYS, 9);
        wife.set(LOUD, 9);
        does(wife, SAYS, 18);
        sentence("hawker: as wife, twice that.");
        HeldTongues hawker = one(HAWKER, 99, 9);
        does(hawker, SAYS, 22);
        hawker.set(LOUD, 9);
        does(hawker, SAYS, 36);
        hawker.mind(0, HAWKER, 0);
        hawker.set(LOUD, 0);
        does(hawker, SAYS, 0);
        sentence("monk: as citizen, less QUIET (0 at least).");
        HeldTongues monk = one(MONK, 99, 5);
        int[] quiets = {0, 4, 5, 6, 9};
        int[] said = {5, 1, 0, 0, 0};
        for (int i = 0; i < quiets.length; i++) {
            monk.set(QUIET, quiets[i]);
            does(monk, SAYS, said[i]);
        }
        sentence("prior: as monk, and a tenth of SAVED (cut).");
        HeldTongues prior = one(PRIOR, 0, 5);
        int[] saved = {0, 9, 10, 19, 20, 89, 90, 99};
        for (int s : saved) {
            prior.change(0, SAVED, s);
            does(prior, SAYS, 4 + s / 10);
        }
        prior.set(QUIET, 9);
        does(prior, SAYS, 9);
        prior.change(0, SAVED, 9);
        does(prior, SAYS, 0);
        sentence("child: as citizen, on even DAYS; else 1.");
        for (int voice = 0; voice <= 9; voice += 9) {
            HeldTongues child = one(CHILD, 99, voice);
            for (int day = 0; day < 4; day++) {
                does(child, SAYS, day % 2 == 0 ? voice : 1);
                child.days(1);
            }
        }
    }

    private void growsBy(HeldTongues x, int... wants) {
        int[] growths = {0, 1, 3, 4, 9};
        for (int i = 0; i < growths.length; i++) {
            x.set(GROWTH, growths[i]);
            does(x, GROWS, wants[i]);
        }
    }

    private void grows() {
        sentence("GROWS: citizen: GROWTH.");
        growsBy(one(CITIZEN, 99, 9), 0, 1, 3, 4, 9);
        sentence("wife: as citizen, and 1.");
        growsBy(one(WIFE, 99, 9), 1, 2, 4, 5, 10);
        sentence("hawker: as wife, and LOUD.");
        HeldTongues hawker = one(HAWKER, 99, 9);
        hawker.set(LOUD, 9);
        growsBy(hawker, 10, 11, 13, 14, 19);
        hawker.set(LOUD, 0);
        growsBy(hawker, 1, 2, 4, 5, 10);
        sentence("monk: half of as citizen (cut).");
        growsBy(one(MONK, 99, 9), 0, 0, 1, 2, 4);
        sentence("prior: as monk, less 2 (so it may be below 0).");
        growsBy(one(PRIOR, 99, 9), -2, -2, -1, 0, 2);
        sentence("child: as citizen, and VOICE.");
        growsBy(one(CHILD, 99, 9), 9, 10, 12, 13, 18);
        growsBy(one(CHILD, 99, 0), 0, 1, 3, 4, 9);
    }

    private void saves() {
        sentence("SAVES: citizen: 1.");
        does(one(CITIZEN, 0, 9), SAVES, 1);
        does(one(CITIZEN, 99, 0), SAVES, 1);
        sentence("wife: 0.");
        does(one(WIFE, 0, 9), SAVES, 0);
        sentence("hawker: as wife.");
        does(one(HAWKER, 0, 9), SAVES, 0);
        sentence("monk: as citizen, and QUIET.");
        HeldTongues monk = one(MONK, 0, 9);
        monk.set(QUIET, 0);
        does(monk, SAVES, 1);
        monk.set(QUIET, 9);
        does(monk, SAVES, 10);
        sentence("prior: as monk, thrice that.");
        HeldTongues prior = one(PRIOR, 0, 9);
        prior.set(QUIET, 0);
        does(prior, SAVES, 3);
        prior.set(QUIET, 9);
        does(prior, SAVES, 30);
        sentence("child: as citizen, on DAYS whose rest by 7 is 0; else 0.");
        HeldTongues child = one(CHILD, 0, 9);
        for (int day = 0; day < 16; day++) {
            does(child, SAVES, day == 0 || day == 7 || day == 14 ? 1 : 0);
            child.days(1);
        }
    }

    private void grown(HeldTongues x, int need, int then, int geese) {
        int before = x.state(GEESE);
        x.change(0, NEED, need);
        x.days(1);
        due("NEED from " + need, x.of(0, NEED), then);
        due("the geese from " + need, x.state(GEESE) - before, geese);
    }

    private void growing() {
        sentence("A DAY: (1) NEED of each is what it GROWS more (0 at least); what is above 99 goes to THE GEESE.");
        HeldTongues citizen = one(CITIZEN, 0, 0);
        grown(citizen, 0, 3, 0);
        grown(citizen, 95, 98, 0);
        grown(citizen, 96, 99, 0);
        grown(citizen, 97, 99, 1);
        grown(citizen, 99, 99, 3);
        citizen.set(GROWTH, 0);
        grown(citizen, 99, 99, 0);
        HeldTongues prior = one(PRIOR, 0, 0);
        prior.set(GROWTH, 0);
        grown(prior, 0, 0, 0);
        grown(prior, 1, 0, 0);
        grown(prior, 2, 0, 0);
        grown(prior, 3, 1, 0);
        grown(prior, 99, 97, 0);
        due("nothing was heard of it", prior.state(HEARD), 0);
        prior.person(CITIZEN, 0, 0, 0);
        prior.pair(1, 0);
        grown(prior, 1, 0, 0);
        due("nor of one that holds its tongue", prior.state(HEARD) + prior.of(0, SAVED), 0);
        HeldTongues loud = one(CITIZEN, 0, 9);
        grown(loud, 99, 90, 3);
        grown(loud, 2, 0, 0);
        loud.person(CITIZEN, 98, 0, 0);
        loud.person(CITIZEN, 99, 0, 0);
        loud.pair(1, 2);
        grown(loud, 99, 90, 3 + 2 + 3);
    }

    /** The speaker's and the other's NEED in front of a day and behind it; the other one saves nothing. */
    private void said(int own, int others, int ownThen, int othersThen, int heard) {
        HeldTongues x = still();
        x.days(1);
        x.person(CITIZEN, own, 0, 4);
        x.person(CHILD, others, 0, 0);
        x.pair(0, 1);
        due("said of " + own + " and " + others, x.days(1), heard);
        due("its own, from " + own, x.of(0, NEED), ownThen);
        due("its partner's, from " + others, x.of(1, NEED), othersThen);
    }

    private void saying() {
        sentence("(2) Each that SPEAKS, by numbers, says what it SAYS, twice that, if it has a PARTNER: of its own "
                + "NEED as much as there is, the rest of its PARTNER's; of both NEEDS so much less; "
                + "HEARD is so much more.");
        int[][] alone = {{0, 0, 0}, {3, 0, 3}, {4, 0, 4}, {5, 1, 4}, {99, 95, 4}};
        for (int[] row : alone) {
            HeldTongues x = stillWith(1, row[0], 4);
            x.person(CITIZEN, 50, 0, 0);
            due("said alone of " + row[0], x.days(1), row[2]);
            due("left of " + row[0], x.of(0, NEED), row[1]);
            due("nobody else's", x.of(1, NEED), 50);
        }
        said(0, 0, 0, 0, 0);
        said(9, 5, 1, 5, 8);
        said(8, 5, 0, 5, 8);
        said(7, 5, 0, 4, 8);
        said(3, 5, 0, 0, 8);
        said(3, 4, 0, 0, 7);
        said(0, 8, 0, 0, 8);
        said(0, 9, 0, 1, 8);
        HeldTongues many = stillWith(8, 99, 1);
        many.pair(7, 0);
        many.pair(1, 6);
        due("4 alone say 1, 2 partners say 2", many.days(1), 4 + 2 + 2);
        due("heard so much more", many.days(1), 16);
        due("heard as it was told", many.state(HEARD), 16);
    }

    private void put(int need, int saved, int needThen, int savedThen) {
        HeldTongues x = new HeldTongues();
        x.set(QUIET, 9);
        x.set(GROWTH, 4);
        x.person(CITIZEN, 0, 5, 0);
        x.person(PRIOR, need, saved, 0);
        x.person(PRIOR, 0, 9, 0);
        x.change(2, NEED, 9);
        x.pair(0, 1);
        x.days(1);
        due("NEED from " + need + " and " + saved, x.of(1, NEED), needThen);
        due("SAVED from " + need + " and " + saved, x.of(1, SAVED), savedThen);
        due("the one that speaks saves nothing", x.of(0, SAVED), 5);
        due("the one alone saves nothing", x.of(2, SAVED), 9);
    }

    private void savingOnADay() {
        sentence("(3) Of each that HOLDS its tongue: of its NEED what it SAVES, but no more than there is "
                + "nor than lets SAVED be 99, goes to SAVED.");
        // A prior SAVES 30 and grows nothing here.
        put(0, 0, 0, 0);
        put(29, 0, 0, 29);
        put(30, 0, 0, 30);
        put(31, 0, 1, 30);
        put(31, 68, 1, 98);
        put(31, 69, 1, 99);
        put(31, 70, 2, 99);
        put(31, 98, 30, 99);
        put(31, 99, 31, 99);
        HeldTongues x = stillWith(2, 0, 9);
        x.change(1, NEED, 18);
        x.pair(0, 1);
        x.days(1);
        due("what was said is not there any more", x.of(1, SAVED), 0);
        x.pair(0, 1);
        x.change(1, NEED, 19);
        x.days(1);
        due("what was left is put by", x.of(1, SAVED) * 10 + x.of(1, NEED), 10);
    }

    private void changingOver() {
        sentence("(4) Of all PARTNERS the one that SPOKE HOLDS its tongue, the other one SPEAKS. DAY is 1 more.");
        HeldTongues x = stillWith(5, 9, 1);
        x.pair(0, 3);
        x.pair(2, 1);
        int[] speakers = {1 + 4 + 16, 8 + 2 + 16, 1 + 4 + 16};
        for (int day = 0; day < speakers.length; day++) {
            due("who speaks on day " + day, x.state(SPEAKERS), speakers[day]);
            due("DAY", x.state(DAY), day);
            x.days(1);
        }
        x.days(60);
        due("DAY behind 60 more", x.state(DAY), 63);
        due("behind an even number", x.state(SPEAKERS), 8 + 2 + 16);
        HeldTongues nobody = new HeldTongues();
        nobody.days(60);
        due("DAY of nobody", nobody.state(DAY), 60);
    }
}
