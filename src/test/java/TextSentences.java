/** The document's words on THE TAPE and the TEXT on it, and on its FAULT. */
final class TextSentences extends Asking {
    private static final String EIGHT = "monk;monk;monk;monk;monk;monk;monk;monk;";

    TextSentences(Sentences doc) {
        super(doc);
    }

    @Override
    void askAll() {
        tape();
        grammar();
        oneMore();
        pairs();
        laws();
        allByItAlone();
        words();
        faultsOfWords();
        faultsOfNumbers();
        faultsOfPlace();
        faultsAtTheEnd();
    }

    private void told(String text, int want) {
        due("town of '" + text + "'", Due.tell(new HeldTongues(), text), want);
    }

    private void fault(String text, int place) {
        told(text, -100 - place);
    }

    private void tape() {
        sentence("THE TAPE takes bytes, 200 at most; town() uses it up.");
        HeldTongues x = new HeldTongues();
        due("at first", x.many(BYTES), 0);
        String blanks = " ".repeat(195);
        Due.feedAll(x, blanks);
        due("195", x.many(BYTES), 195);
        due("6 more are too many", x.feed(0x3b3b3b3b3b3bL, 6), FULL);
        due("none of them came", x.many(BYTES), 195);
        due("5 more", x.feed(0x3b6b6e6f6dL, 5), 200);
        due("1 more is too many", x.feed(';', 1), FULL);
        due("200 bytes are read, to the last", x.town(), 1);
        due("used up", x.many(BYTES), 0);
        due("nothing is left of it", x.town(), 0);
        Due.feedAll(x, blanks);
        x.feed(0x786b6e6f6dL, 5);
        due("a fault in the last word", x.town(), -295);
        due("used up by a fault, too", x.many(BYTES), 0);
        Due.feedAll(x, EIGHT);
        x.feed(0xffffffffffffff00L, 1);
        due("only 1 of the eight bytes is taken", x.many(BYTES), 41);
        due("a byte 0 is a byte", x.town(), -140);
    }

    private void grammar() {
        sentence("TEXT: { KIND [ need N ] [ saved N ] [ voice N ] ; | pair N with N ; | loud N ; | quiet N ; "
                + "| growth N ; | lot N ; }");
        told("", 0);
        told("monk;", 1);
        told("monk need 1;", 1);
        told("monk saved 1;", 1);
        told("monk voice 1;", 1);
        told("monk need 1 saved 1;", 1);
        told("monk need 1 voice 1;", 1);
        told("monk saved 1 voice 1;", 1);
        told("monk need 1 saved 1 voice 1;", 1);
        told("monk;wife;pair 0 with 1;", 2);
        told("loud 1;quiet 1;growth 1;lot 1;", 0);
        told("lot 1;monk;growth 1;wife;pair 1 with 0;loud 1;pair 0 with 1;", 2);
        fault("monk saved 1 need 1;", 13);
        fault("monk voice 1 need 1;", 13);
        fault("monk voice 1 saved 1;", 13);
        fault("monk need 1 need 1;", 12);
        fault("monk saved 1 saved 1;", 13);
        fault("monk voice 1 voice 1;", 13);
        fault("monk,", 4);
        fault("monk 1;", 5);
        fault("monk pair;", 5);
        fault("monk monk;", 5);
        fault("loud 1 1;", 7);
        fault("pair with;", 5);
        fault("monk;wife;pair 0 1;", 17);
        fault("monk;wife;pair 0 with 1 with 0;", 24);
        fault("with 1;", 0);
        fault("need 1;", 0);
        fault("{monk;}", 0);
    }

    private void oneMore() {
        sentence("KIND (citizen | wife | monk | hawker | prior | child): one more; NEED, SAVED (0 without), "
                + "VOICE (3 without).");
        String[] kinds = {"citizen", "wife", "monk", "hawker", "prior", "child"};
        for (int kind = 0; kind < kinds.length; kind++) {
            HeldTongues x = new HeldTongues();
            due(kinds[kind], Due.tell(x, kinds[kind] + ";"), 1);
            due("its kind", x.of(0, KIND), kind);
            due("NEED without", x.of(0, NEED), 0);
            due("SAVED without", x.of(0, SAVED), 0);
            due("VOICE without", x.of(0, VOICE), 3);
            due("alone", x.of(0, PARTNER), 0);
        }
        HeldTongues y = new HeldTongues();
        Due.tell(y, "wife need 99 saved 98 voice 9;wife need 0 saved 0 voice 0;");
        due("NEED, the most", y.of(0, NEED), 99);
        due("SAVED", y.of(0, SAVED), 98);
        due("VOICE, the most", y.of(0, VOICE), 9);
        due("NEED 0", y.of(1, NEED), 0);
        due("SAVED 0", y.of(1, SAVED), 0);
        due("VOICE 0", y.of(1, VOICE), 0);
        told(EIGHT, 8);
    }

    private void pairs() {
        sentence("pair: two there by then, unlike, are PAIRED.");
        HeldTongues x = new HeldTongues();
        Due.tell(x, "monk;monk;monk;pair 0 with 1;pair 2 with 1;");
        due("who was partner is alone", x.of(0, PARTNER), 0);
        due("partner", x.of(1, PARTNER), 3);
        due("the first speaks", x.state(SPEAKERS), 1 + 4);
        Due.tell(x, "monk;monk;pair 0 with 1;pair 1 with 0;");
        due("the other one first", x.state(SPEAKERS), 2);
        told(EIGHT + "pair 7 with 0;", 8);
        told(EIGHT + "pair 0 with 7;", 8);
        fault("monk;pair 0 with 1;monk;", 17);
        fault("monk;pair 1 with 0;monk;", 10);
        fault("pair 0 with 1;monk;monk;", 5);
        fault("monk;pair 0 with 0;", 17);
        fault(EIGHT + "pair 7 with 7;", 52);
        fault(EIGHT + "pair 8 with 7;", 45);
        fault(EIGHT + "pair 7 with 8;", 52);
    }

    private void laws() {
        sentence("The others: the LAW.");
        String[] names = {"loud", "quiet", "growth", "lot"};
        int[] most = {9, 9, 9, 99};
        for (int law = 0; law < 4; law++) {
            HeldTongues x = new HeldTongues();
            due("the most", Due.tell(x, names[law] + " " + most[law] + ";"), 0);
            due("is taken", x.lawOf(law), most[law]);
            due("the least", Due.tell(x, names[law] + " 0;"), 0);
            due("is taken", x.lawOf(law), 0);
            due("twice", Due.tell(x, names[law] + " 7;" + names[law] + " 8;"), 0);
            due("the later one", x.lawOf(law), 8);
            fault(names[law] + " " + (most[law] + 1) + ";", names[law].length() + 1);
        }
    }

    private void allByItAlone() {
        sentence("It is all by it alone (what it doesn't tell is as at first); z stays.");
        HeldTongues x = Twins.usual();
        Due.feedAll(x, "or;");
        due("monk;prior;", x.town(), 2);
        due("z", x.seed(77), 77);
        due("DAY", x.state(DAY), 0);
        due("HEARD", x.state(HEARD), 0);
        due("GEESE", x.state(GEESE), 0);
        due("NEED of all", x.state(ALL_NEED), 0);
        due("SAVED of all", x.state(ALL_SAVED), 0);
        due("all alone", x.many(PAIRS), 0);
        due("all speak", x.state(SPEAKERS), 3);
        int[] first = {2, 1, 3, 20};
        for (int law = 0; law < 4; law++) {
            due("law " + law, x.lawOf(law), first[law]);
        }
        HeldTongues y = Twins.full();
        y.town();
        y.set(LOT, 99);
        y.day();
        int z = y.seed(5);
        y.seed(z);
        due("an empty text", y.town(), 0);
        due("nobody", y.many(PEOPLE), 0);
        due("law", y.lawOf(LOT), 20);
        due("z", y.seed(0), z);
    }

    private void words() {
        sentence("NAMES are rows of letters a to z, NUMBERS rows of digits (1 to 3), both as long as they go; "
                + "blanks (32) part them, and stand elsewhere as one likes.");
        told("   ", 0);
        told("   monk   need   5   ;   wife   ;   ", 2);
        told(" loud 5 ; lot 5 ; ", 0);
        told("monk need 0;", 1);
        told("monk need 00;", 1);
        told("monk need 000;", 1);
        told("monk need 099;", 1);
        told("monk voice 009;", 1);
        told("monk;wife;pair 000 with 001;", 2);
        told("loud 009;lot 099;", 0);
        told("monk need5saved6voice7;loud5;", 1);
        fault("monk need 0000;", 10);
        fault("monk voice 0009;", 11);
        fault("monk need;", 9);
        fault("monkneed 5;", 0);
        fault("monks;", 0);
        fault("mon;", 0);
        fault("mo nk;", 0);
        fault("monk need 1 0;", 12);
        fault("monk needsaved 1;", 5);
        fault("Monk;", 0);
        fault("monK;", 0);
        fault("monk`;", 4);
        fault("monk{;", 4);
        fault("monk need /;", 10);
        fault("monk need :;", 10);
        fault("monk\t;", 4);
        fault("monk\n;", 4);
        fault("\u001fmonk;", 0);
        fault("!monk;", 0);
        fault("monk;\u0000", 5);
        fault("monk;\u00a0", 5);
        fault("monk;\u00ff", 5);
        fault("\u00edonk;", 0);
    }

    private void faultsOfWords() {
        sentence("FAULT: the place (from 0) of the first byte of the first NAME, NUMBER or other byte "
                + "that can't stand there or is not as told");
        fault(";", 0);
        fault("  ;", 2);
        fault("x", 0);
        fault("7", 0);
        fault("monk;x", 5);
        fault("monk;;", 5);
        fault("monk;  baker;", 7);
        fault("monk;12;", 5);
        fault("monk  baker;", 6);
        fault("monk need baker;", 10);
        fault("monk need 100 saved 100;", 10);
        fault("loud x 9;", 5);
        fault("lot -1;", 4);
        fault("lot 1.5;", 5);
        // A word that begins a sentence can't stand where one has begun.
        fault("monk wife;", 5);
        fault("monk need wife;", 10);
        fault("monk need 1 wife;", 12);
        fault("monk saved wife;", 11);
        fault("monk saved 1 wife;", 13);
        fault("monk voice wife;", 11);
        fault("monk voice 1 wife;", 13);
        fault("loud wife;", 5);
        fault("loud 1 wife;", 7);
        fault("monk;monk;pair wife;", 15);
        fault("monk;monk;pair 0 wife;", 17);
        fault("monk;monk;pair 0 with wife;", 22);
        fault("monk;monk;pair 0 with 1 wife;", 24);
        oneLetterWrong();
    }

    private void oneLetterWrong() {
        String[][] texts = {{"", "citizen"}, {"", "wife"}, {"", "monk"}, {"", "hawker"}, {"", "prior"}, {"", "child"},
            {"", "pair"}, {"", "loud"}, {"", "quiet"}, {"", "growth"}, {"", "lot"}, {"monk ", "need"},
            {"monk ", "saved"}, {"monk ", "voice"}, {"monk;monk;pair 0 ", "with"}};
        for (String[] text : texts) {
            String name = text[1];
            for (int i = 0; i < name.length(); i++) {
                char other = name.charAt(i) == 'x' ? 'y' : 'x';
                fault(text[0] + name.substring(0, i) + other + name.substring(i + 1) + " 1;", text[0].length());
                fault(text[0] + name.substring(0, i) + name.substring(i + 1) + " 1;", text[0].length());
            }
            fault(text[0] + name + "x 1;", text[0].length());
        }
    }

    private void faultsOfNumbers() {
        sentence("(a NUMBER out of range, of more digits, of nobody, the same as the first one; "
                + "the NAME of a ninth one),");
        told("monk need 99 saved 99 voice 9;", 1);
        fault("monk need 100;", 10);
        fault("monk need 999;", 10);
        fault("monk saved 100;", 11);
        fault("monk voice 10;", 11);
        fault("monk need 99 saved 99 voice 10;", 28);
        fault("monk need 0005;", 10);
        fault("monk need 4294967296;", 10);
        fault("monk need 18446744073709551616;", 10);
        fault("monk;wife;pair 0000 with 1;", 15);
        fault("monk;wife;pair 0 with 0001;", 22);
        fault("pair 0 with 1;", 5);
        fault("monk;wife;pair 2 with 1;", 15);
        fault("monk;wife;pair 0 with 2;", 22);
        fault("monk;wife;pair 999 with 1;", 15);
        fault("monk;wife;pair 1 with 1;", 22);
        fault("monk;wife;pair 1 with 01;", 22);
        fault("monk;wife;pair 0 with 000;", 22);
        fault(EIGHT + "wife;", 40);
        fault(EIGHT + "  wife need 100;", 42);
        fault(EIGHT + "wife", 40);
        told(EIGHT + "loud 1;pair 0 with 7;", 8);
    }

    private void faultsOfPlace() {
        HeldTongues x = Twins.usual();
        Due.feedAll(x, "or;loud 9;monk need 5;pair 0 with 3;");
        HeldTongues twin = Twins.usual();
        due("a fault behind much that is right", x.town(), -100 - 42);
        twin.town();
        due("nothing of it is taken", Twins.allOf(x).equals(Twins.allOf(twin)) ? 1 : 0, 1);
    }

    private void faultsAtTheEnd() {
        sentence("or the end (how many bytes there are), if more must come.");
        String text = "monk need 5 saved 6 voice 7";
        int[] ends = {4, 9, 11, 17, 19, 25, 27};
        for (int end : ends) {
            fault(text.substring(0, end), end);
            fault(text.substring(0, end) + "  ", end + 2);
        }
        String pair = "monk;wife;pair 0 with 1";
        int[] pairEnds = {14, 16, 21, 23};
        for (int end : pairEnds) {
            fault(pair.substring(0, end), end);
            fault(pair.substring(0, end) + " ", end + 1);
        }
        for (String law : new String[] {"loud", "quiet", "growth", "lot"}) {
            fault(law, law.length());
            fault(law + " 1", law.length() + 2);
        }
        HeldTongues x = new HeldTongues();
        Due.tell(x, "monk need 555555555555;");
        due("what was on the tape before is not there any more", Due.tell(x, "monk need 5"), -111);
        due("nor letters", Due.tell(x, "monkssssssss;"), -100);
        due("nor letters", Due.tell(x, "monk"), -104);
        due("nor letters", Due.tell(x, "m"), -100);
        fault(" ".repeat(196) + "monk", 200);
        fault("monk" + " ".repeat(196), 200);
        fault(" ".repeat(199) + "m", 199);
        told("monk" + " ".repeat(195) + ";", 1);
        told("monk;" + " ".repeat(195), 1);
    }
}
