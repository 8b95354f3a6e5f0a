/**
 * A town where on market days each keeps quiet for a partner, who may then say as much as two.
 * The face only looks at what it is given and hands out refusals, the first named in the document
 * first; the classes inside are called with what has been found right, and answer.
 */
public final class HeldTongues {
    public static final int BAD = -1, FULL = -2, NONE = -3;

    private static final int NO_ROW = -9;
    private static final int NOTHING_THERE = -11;
    private static final int OUTSIDE = -12;
    private static final int ANOTHER_SORT = -13;
    private static final int SIZE_BELOW_ZERO = -14;
    private static final int PARTED_BY_ZERO = -15;
    private static final int BEFORE_FAULTS = -100;

    private static final int CITIZEN = 0, WIFE = 1, MONK = 2, HAWKER = 3, PRIOR = 4, CHILD = 5;
    private static final int KINDS = 6;
    private static final int LOUD = 0, QUIET = 1, GROWTH = 2, LOT = 3;
    private static final int LAWS = 4;

    private static final int MOST_PEOPLE = 8;
    private static final int MOST_NEED = 99;
    private static final int MOST_SAVED = 99;
    private static final int MOST_VOICE = 9;
    private static final int MOST_HEARD = 99999;
    private static final int MOST_DAYS = 60;
    private static final int MOST_BYTES = 200;
    private static final int MOST_ROWS = 10;
    private static final int MOST_ITEMS = 40;
    private static final int MOST_BODIES = 30;
    private static final int SHEETS = 4;
    private static final int SHELVES = 4;
    private static final int SORTS = 4;
    private static final int FIRST_ROW_SORT = 10;
    private static final int MISSING = -1;
    private static final int ALONE = -1;
    private static final int NOBODY = -1;

    private final Town now = new Town();
    private final Town kept = new Town();
    private final Town tried = new Town();
    private final Trials trials = new Trials(now, tried);
    private final Pairings pairings = new Pairings(now);
    private final Tape tape = new Tape();
    private final Telling telling = new Telling(tape, tried);
    private final DayRows dayRows = new DayRows(now, tried);
    private final Deed deed = new Deed();
    private final SheetRow[] sheets = new SheetRow[SHEETS];
    // A shelf holds a person by its number alone, but a row itself, whatever its sheet becomes.
    private final int[] shelvedPerson = new int[SHELVES];
    private final SheetRow[] shelvedRow = new SheetRow[SHELVES];
    private boolean anythingKept;

    public HeldTongues() {
        for (int i = 0; i < SHELVES; i++) {
            shelvedPerson[i] = NOBODY;
        }
    }

    public int feed(long eight, int n) {
        if (!within(n, 1, 8)) {
            return BAD;
        }
        if (tape.length + n > MOST_BYTES) {
            return FULL;
        }
        tape.take(eight, n);
        return tape.length;
    }

    public int town() {
        tried.beginAnew();
        tried.z = now.z;
        boolean right = telling.readTown();
        tape.length = 0;
        if (!right) {
            return BEFORE_FAULTS - telling.start;
        }
        now.copyFrom(tried);
        dayRows.count = 0;
        return now.count;
    }

    public int set(int law, int v) {
        if (!isLaw(law) || !within(v, 0, mostOfLaw(law))) {
            return BAD;
        }
        int was = now.laws[law];
        now.laws[law] = v;
        return was;
    }

    public int lawOf(int law) {
        return isLaw(law) ? now.laws[law] : BAD;
    }

    public int person(int kind, int need, int saved, int voice) {
        if (!isKind(kind) || !isVoice(voice)) {
            return BAD;
        }
        if (!within(need, 0, MOST_NEED) || !within(saved, 0, MOST_SAVED)) {
            return BAD;
        }
        if (now.count >= MOST_PEOPLE) {
            return FULL;
        }
        now.add(kind, need, saved, voice);
        return now.count - 1;
    }

    public int of(int person, int what) {
        if (!now.has(person)) {
            return BAD;
        }
        switch (what) {
            case 0: return now.kind[person];
            case 1: return now.need[person];
            case 2: return now.saved[person];
            case 3: return now.voice[person];
            case 4: return now.partner[person] + 1;
            case 5: return now.speaks[person] ? 1 : 0;
            default: return BAD;
        }
    }

    public int does(int person, int what) {
        if (!now.has(person)) {
            return BAD;
        }
        switch (what) {
            case 0: return 1000 + now.saysOf(person);
            case 1: return 1000 + now.growsOf(person);
            case 2: return 1000 + now.savesOf(person);
            default: return BAD;
        }
    }

    public int mind(int person, int kind, int voice) {
        if (!now.has(person) || !isKind(kind) || !isVoice(voice)) {
            return BAD;
        }
        int was = now.kind[person];
        now.kind[person] = kind;
        now.voice[person] = voice;
        return was;
    }

    public int change(int person, int what, int v) {
        if (!now.has(person)) {
            return BAD;
        }
        if (what == 1 && within(v, 0, MOST_NEED)) {
            int was = now.need[person];
            now.need[person] = v;
            return was;
        }
        if (what == 2 && within(v, 0, MOST_SAVED)) {
            int was = now.saved[person];
            now.saved[person] = v;
            return was;
        }
        return BAD;
    }

    public int pair(int person, int other) {
        if (!now.has(person) || !now.has(other) || person == other) {
            return BAD;
        }
        boolean were = now.partner[person] == other;
        now.join(person, other);
        return were ? 1 : 0;
    }

    public int leave(int person) {
        if (!now.has(person)) {
            return BAD;
        }
        boolean had = now.partner[person] != ALONE;
        now.unjoin(person);
        return had ? 1 : 0;
    }

    public int spend(int person) {
        if (!now.has(person)) {
            return BAD;
        }
        int spent = Math.min(now.saved[person], MOST_NEED - now.need[person]);
        now.saved[person] -= spent;
        now.need[person] += spent;
        return now.need[person];
    }

    public int days(int n) {
        if (!within(n, 1, MOST_DAYS)) {
            return BAD;
        }
        now.pass(n);
        return now.heard;
    }

    public int seed(int v) {
        int was = now.z;
        now.z = v;
        return was;
    }

    public int day() {
        return now.passDayByDraws();
    }

    public int luck(int n) {
        return within(n, 1, 30) ? trials.luckyDays(n) : BAD;
    }

    public int state(int what) {
        switch (what) {
            case 0: return now.day;
            case 1: return now.heard;
            case 2: return now.geese;
            case 3: return now.allNeed();
            case 4: return now.allSaved();
            case 5: return now.speakers();
            default: return BAD;
        }
    }

    public int sound(int n) {
        return within(n, 0, MOST_DAYS) ? trials.soundBy(n) : BAD;
    }

    public int eased(int person) {
        return now.has(person) ? trials.daysUntilNeed(person, 0) : BAD;
    }

    public int full(int person) {
        return now.has(person) ? trials.daysUntilNeed(person, MOST_NEED) : BAD;
    }

    public int hush() {
        return trials.daysUntilHush();
    }

    public int partnerFor(int person, int n) {
        if (!now.has(person) || !within(n, 1, 20)) {
            return BAD;
        }
        return trials.loudestPartner(person, n);
    }

    public int kindFor(int person, int n) {
        if (!now.has(person) || !within(n, 1, 20)) {
            return BAD;
        }
        return trials.loudestKind(person, n);
    }

    public int voiceFor(int person, int n, int v) {
        if (!now.has(person) || !within(n, 1, 20) || !within(v, 0, 9999)) {
            return BAD;
        }
        return trials.leastVoice(person, n, v);
    }

    public int best(int n) {
        if (!within(n, 1, 5)) {
            return BAD;
        }
        pairings.weigh(n);
        return pairings.mostSound();
    }

    public int bestOf(int n, int person) {
        if (!within(n, 1, 5) || !now.has(person)) {
            return BAD;
        }
        pairings.weigh(n);
        int partner = pairings.partnerInFirstWay(person);
        return partner == person ? 0 : partner + 1;
    }

    public int fits(int sheet, int person, int what) {
        if (!isSheet(sheet) || !now.has(person) || !within(what, 0, 1)) {
            return BAD;
        }
        SheetRow told = sheets[sheet];
        if (told == null) {
            return NOTHING_THERE;
        }
        return what == 0 ? trials.howManyFit(told, person) : trials.leastFit(told, person);
    }

    public long odds(int n, int k, int part) {
        if (!within(n, 0, 8) || !within(k, 0, n) || !within(part, 0, 1)) {
            return BAD;
        }
        long lot = now.laws[LOT];
        long above = waysToDraw(n, k) * power(lot, k) * power(100 - lot, n - k);
        return partOf(above, power(100, n), part);
    }

    public long hope(int n, int part) {
        if (!within(n, 0, 99) || !within(part, 0, 1)) {
            return BAD;
        }
        return partOf((long) n * now.laws[LOT], 100, part);
    }

    public int prove(int person, int n) {
        if (!now.has(person) || !within(n, 1, MOST_ROWS)) {
            return BAD;
        }
        dayRows.write(person, n);
        return n;
    }

    public int row(int i, int what) {
        return dayRows.has(i, what) ? dayRows.numbers[dayRows.placeOf(i, what)] : NO_ROW;
    }

    public int alterRow(int i, int what, int v) {
        if (!dayRows.has(i, what)) {
            return NO_ROW;
        }
        int place = dayRows.placeOf(i, what);
        int was = dayRows.numbers[place];
        dayRows.numbers[place] = v;
        return was;
    }

    public int judge(int person) {
        return now.has(person) ? dayRows.firstWrong(person) : BAD;
    }

    public int minds(int sheet, int i, int person, int n) {
        if (!isSheet(sheet) || !now.has(person) || !within(n, 0, 8) || person + n > now.count) {
            return BAD;
        }
        SheetRow bytes = sheets[sheet];
        if (bytes == null) {
            return NOTHING_THERE;
        }
        if (bytes.sort != 0) {
            return ANOTHER_SORT;
        }
        if (!within(i, 0, bytes.items.length) || n > bytes.items.length - i) {
            return OUTSIDE;
        }
        for (int k = 0; k < n; k++) {
            int told = (int) bytes.items[i + k];
            now.need[person + k] = Math.max(0, Math.min(MOST_NEED, told));
        }
        return n;
    }

    public int sheet(int sheet, int sort, int n) {
        if (!isSheet(sheet) || !within(sort, MISSING, SORTS - 1)) {
            return BAD;
        }
        if (sort == MISSING) {
            sheets[sheet] = null;
            return 1;
        }
        if (n > MOST_ITEMS) {
            return BAD;
        }
        if (n < 0) {
            return SIZE_BELOW_ZERO;
        }
        sheets[sheet] = new SheetRow(sort, n);
        return 1;
    }

    public int put(int sheet, int i, int v) {
        if (!isSheet(sheet)) {
            return BAD;
        }
        SheetRow told = sheets[sheet];
        if (told == null) {
            return NOTHING_THERE;
        }
        if (!told.has(i)) {
            return OUTSIDE;
        }
        told.items[i] = told.narrowed(v);
        return 1;
    }

    public int item(int sheet, int sort, int i) {
        if (!isSheet(sheet) || !within(sort, 0, SORTS - 1)) {
            return BAD;
        }
        SheetRow told = sheets[sheet];
        if (told == null) {
            return NOTHING_THERE;
        }
        if (told.sort != sort) {
            return ANOTHER_SORT;
        }
        return told.has(i) ? (int) told.items[i] : OUTSIDE;
    }

    public int shelf(int shelf, int what, int n) {
        if (!isShelf(shelf)) {
            return BAD;
        }
        if (what == 0 && now.has(n)) {
            placeOnShelf(shelf, n, null);
            return 1;
        }
        if (what == 1 && isSheet(n)) {
            placeOnShelf(shelf, NOBODY, sheets[n]);
            return 1;
        }
        if (what == 2) {
            placeOnShelf(shelf, NOBODY, null);
            return 1;
        }
        return BAD;
    }

    public int taken(int shelf, int as) {
        boolean asRow = within(as, FIRST_ROW_SORT, FIRST_ROW_SORT + SORTS - 1);
        if (!isShelf(shelf) || !(isKind(as) || asRow)) {
            return BAD;
        }
        SheetRow held = shelvedRow[shelf];
        if (held != null) {
            return held.sort == as - FIRST_ROW_SORT ? held.items.length : ANOTHER_SORT;
        }
        int person = shelvedPerson[shelf];
        if (!now.has(person)) {
            return NOTHING_THERE;
        }
        return isKind(as) && isUnder(now.kind[person], as) ? person : ANOTHER_SORT;
    }

    public int act(int shelf, int act, int x) {
        deed.forget();
        if (!isShelf(shelf) || !within(act, 0, 3)) {
            return 0;
        }
        int person = shelvedPerson[shelf];
        if (!now.has(person)) {
            return 0;
        }
        int answer = deed.run(now, person, act, x);
        return deed.partedByZero ? PARTED_BY_ZERO : answer;
    }

    public int trace(int i) {
        return within(i, 0, deed.begun - 1) ? deed.bodies[i] : NONE;
    }

    public int many(int what) {
        switch (what) {
            case 0: return now.count;
            case 1: return now.pairs();
            case 2: return Integer.bitCount(now.speakers());
            case 3: return now.fullOnes();
            case 4: return dayRows.count;
            case 5: return tape.length;
            case 6: return deed.begun;
            default: return BAD;
        }
    }

    public int keep() {
        kept.copyFrom(now);
        anythingKept = true;
        return 1;
    }

    public int again() {
        if (!anythingKept) {
            return NONE;
        }
        now.copyFrom(kept);
        return now.count;
    }

    private void placeOnShelf(int shelf, int person, SheetRow row) {
        shelvedPerson[shelf] = person;
        shelvedRow[shelf] = row;
    }

    private static boolean within(int v, int least, int most) {
        return v >= least && v <= most;
    }

    private static boolean isLaw(int law) {
        return within(law, 0, LAWS - 1);
    }

    private static int mostOfLaw(int law) {
        return law == LOT ? 99 : 9;
    }

    private static boolean isKind(int kind) {
        return within(kind, 0, KINDS - 1);
    }

    private static boolean isVoice(int voice) {
        return within(voice, 0, MOST_VOICE);
    }

    private static boolean isSheet(int sheet) {
        return within(sheet, 0, SHEETS - 1);
    }

    private static boolean isShelf(int shelf) {
        return within(shelf, 0, SHELVES - 1);
    }

    private static boolean isUnder(int kind, int as) {
        if (as == CITIZEN || as == kind) {
            return true;
        }
        return (as == WIFE && kind == HAWKER) || (as == MONK && kind == PRIOR);
    }

    private static long power(long base, int times) {
        long product = 1;
        for (int i = 0; i < times; i++) {
            product *= base;
        }
        return product;
    }

    private static long waysToDraw(int n, int k) {
        long ways = 1;
        for (int i = 1; i <= k; i++) {
            ways = ways * (n - k + i) / i;
        }
        return ways;
    }

    private static long partOf(long above, long below, int part) {
        long divisor = commonDivisor(above, below);
        if (divisor == 0) {
            return 0;
        }
        return (part == 0 ? above : below) / divisor;
    }

    private static long commonDivisor(long above, long below) {
        long a = above;
        long b = below;
        // Euclid's steps for two longs are fewer than a hundred.
        for (int step = 0; step < 100 && b != 0; step++) {
            long rest = a % b;
            a = b;
            b = rest;
        }
        return a;
    }

    /** Laws, people and the days' counts: what one town is at one time. */
    private static final class Town {
        final int[] laws = new int[LAWS];
        final int[] kind = new int[MOST_PEOPLE];
        final int[] need = new int[MOST_PEOPLE];
        final int[] saved = new int[MOST_PEOPLE];
        final int[] voice = new int[MOST_PEOPLE];
        final int[] partner = new int[MOST_PEOPLE];
        final boolean[] speaks = new boolean[MOST_PEOPLE];
        int count;
        int day;
        int heard;
        int geese;
        int z;

        Town() {
            setFirstLaws();
            z = 1;
        }

        private void setFirstLaws() {
            laws[LOUD] = 2;
            laws[QUIET] = 1;
            laws[GROWTH] = 3;
            laws[LOT] = 20;
        }

        // z is left as it is: a text that tells a town does not tell z.
        void beginAnew() {
            setFirstLaws();
            count = 0;
            day = 0;
            heard = 0;
            geese = 0;
        }

        void copyFrom(Town other) {
            copyLawsAndDay(other);
            heard = other.heard;
            geese = other.geese;
            z = other.z;
            count = other.count;
            for (int one = 0; one < count; one++) {
                kind[one] = other.kind[one];
                need[one] = other.need[one];
                saved[one] = other.saved[one];
                voice[one] = other.voice[one];
                partner[one] = other.partner[one];
                speaks[one] = other.speaks[one];
            }
        }

        void copyLawsAndDay(Town other) {
            for (int law = 0; law < LAWS; law++) {
                laws[law] = other.laws[law];
            }
            day = other.day;
        }

        boolean has(int one) {
            return one >= 0 && one < count;
        }

        void add(int newKind, int newNeed, int newSaved, int newVoice) {
            if (count >= MOST_PEOPLE) {
                return;
            }
            kind[count] = newKind;
            need[count] = newNeed;
            saved[count] = newSaved;
            voice[count] = newVoice;
            setAlone(count);
            count++;
        }

        private void setAlone(int one) {
            partner[one] = ALONE;
            speaks[one] = true;
        }

        void unjoin(int one) {
            int other = partner[one];
            setAlone(one);
            if (has(other)) {
                setAlone(other);
            }
        }

        void join(int first, int second) {
            unjoin(first);
            unjoin(second);
            partner[first] = second;
            partner[second] = first;
            speaks[second] = false;
        }

        int saysOf(int one) {
            switch (kind[one]) {
                case WIFE: return voice[one] + laws[LOUD];
                case HAWKER: return 2 * (voice[one] + laws[LOUD]);
                case MONK: return Math.max(0, voice[one] - laws[QUIET]);
                case PRIOR: return Math.max(0, voice[one] - laws[QUIET]) + saved[one] / 10;
                case CHILD: return day % 2 == 0 ? voice[one] : 1;
                default: return voice[one];
            }
        }

        int growsOf(int one) {
            int growth = laws[GROWTH];
            switch (kind[one]) {
                case WIFE: return growth + 1;
                case HAWKER: return growth + 1 + laws[LOUD];
                case MONK: return growth / 2;
                case PRIOR: return growth / 2 - 2;
                case CHILD: return growth + voice[one];
                default: return growth;
            }
        }

        int savesOf(int one) {
            switch (kind[one]) {
                case WIFE: return 0;
                case HAWKER: return 0;
                case MONK: return 1 + laws[QUIET];
                case PRIOR: return 3 * (1 + laws[QUIET]);
                case CHILD: return day % 7 == 0 ? 1 : 0;
                default: return 1;
            }
        }

        int pass(int n) {
            int said = 0;
            for (int i = 0; i < n; i++) {
                said += passDay();
            }
            return said;
        }

        int passDay() {
            growAll();
            int said = sayAll();
            saveAll();
            changeOver();
            heard = Math.min(MOST_HEARD, heard + said);
            day++;
            return said;
        }

        private void growAll() {
            for (int one = 0; one < count; one++) {
                int grown = Math.max(0, need[one] + growsOf(one));
                int over = Math.max(0, grown - MOST_NEED);
                need[one] = grown - over;
                geese = Math.min(MOST_HEARD, geese + over);
            }
        }

        private int sayAll() {
            int said = 0;
            for (int one = 0; one < count; one++) {
                if (speaks[one]) {
                    int other = partner[one];
                    int may = has(other) ? 2 * saysOf(one) : saysOf(one);
                    int own = Math.min(may, need[one]);
                    need[one] -= own;
                    said += own;
                    if (has(other)) {
                        int rest = Math.min(may - own, need[other]);
                        need[other] -= rest;
                        said += rest;
                    }
                }
            }
            return said;
        }

        private void saveAll() {
            for (int one = 0; one < count; one++) {
                if (!speaks[one]) {
                    int room = Math.min(need[one], MOST_SAVED - saved[one]);
                    int put = Math.min(savesOf(one), room);
                    need[one] -= put;
                    saved[one] += put;
                }
            }
        }

        private void changeOver() {
            for (int one = 0; one < count; one++) {
                if (partner[one] != ALONE) {
                    speaks[one] = !speaks[one];
                }
            }
        }

        int passDayByDraws() {
            if (count > 0) {
                int one = draw() % count;
                if (draw() % 100 < laws[LOT]) {
                    joinByLot(one, draw() % count);
                }
            }
            return passDay();
        }

        private void joinByLot(int one, int other) {
            if (one == other) {
                unjoin(one);
            } else {
                join(one, other);
            }
        }

        private int draw() {
            z = z * 1103515245 + 12345;
            return z >>> 16;
        }

        int allNeed() {
            int sum = 0;
            for (int one = 0; one < count; one++) {
                sum += need[one];
            }
            return sum;
        }

        int allSaved() {
            int sum = 0;
            for (int one = 0; one < count; one++) {
                sum += saved[one];
            }
            return sum;
        }

        int speakers() {
            int set = 0;
            for (int one = 0; one < count; one++) {
                if (speaks[one]) {
                    set |= 1 << one;
                }
            }
            return set;
        }

        int pairs() {
            int found = 0;
            for (int one = 0; one < count; one++) {
                if (partner[one] > one) {
                    found++;
                }
            }
            return found;
        }

        int fullOnes() {
            int found = 0;
            for (int one = 0; one < count; one++) {
                if (need[one] == MOST_NEED) {
                    found++;
                }
            }
            return found;
        }
    }

    /** Questions that are answered by trying days on a copy of the town. */
    private static final class Trials {
        private final Town now;
        private final Town tried;

        Trials(Town now, Town tried) {
            this.now = now;
            this.tried = tried;
        }

        int soundBy(int n) {
            tried.copyFrom(now);
            return tried.pass(n);
        }

        int daysUntilNeed(int person, int need) {
            tried.copyFrom(now);
            for (int days = 0; days <= MOST_DAYS; days++) {
                if (tried.need[person] == need) {
                    return days;
                }
                tried.passDay();
            }
            return NONE;
        }

        int daysUntilHush() {
            tried.copyFrom(now);
            for (int days = 0; days <= MOST_DAYS; days++) {
                if (tried.allNeed() == 0) {
                    return days;
                }
                tried.passDay();
            }
            return NONE;
        }

        int loudestPartner(int person, int n) {
            tried.copyFrom(now);
            int most = tried.pass(n);
            int found = NONE;
            for (int other = 0; other < now.count; other++) {
                if (other != person) {
                    tried.copyFrom(now);
                    tried.join(person, other);
                    int sound = tried.pass(n);
                    if (sound > most) {
                        most = sound;
                        found = other;
                    }
                }
            }
            return found;
        }

        int loudestKind(int person, int n) {
            int most = -1;
            int found = CITIZEN;
            for (int kind = 0; kind < KINDS; kind++) {
                tried.copyFrom(now);
                tried.kind[person] = kind;
                int sound = tried.pass(n);
                if (sound > most) {
                    most = sound;
                    found = kind;
                }
            }
            return found;
        }

        int leastVoice(int person, int n, int v) {
            for (int voice = 0; voice <= MOST_VOICE; voice++) {
                tried.copyFrom(now);
                tried.voice[person] = voice;
                if (tried.pass(n) >= v) {
                    return voice;
                }
            }
            return NONE;
        }

        int howManyFit(SheetRow told, int person) {
            int fitting = 0;
            for (int voice = 0; voice <= MOST_VOICE; voice++) {
                if (voiceFits(told, person, voice)) {
                    fitting++;
                }
            }
            return fitting;
        }

        int leastFit(SheetRow told, int person) {
            for (int voice = 0; voice <= MOST_VOICE; voice++) {
                if (voiceFits(told, person, voice)) {
                    return voice;
                }
            }
            return NONE;
        }

        private boolean voiceFits(SheetRow told, int person, int voice) {
            tried.copyFrom(now);
            tried.voice[person] = voice;
            for (int i = 0; i < told.items.length; i++) {
                tried.passDay();
                long need = told.items[i];
                if (need != -1 && need != tried.need[person]) {
                    return false;
                }
            }
            return true;
        }

        int luckyDays(int n) {
            tried.copyFrom(now);
            int usual = tried.passDay();
            int z = now.z;
            int lucky = 0;
            for (int i = 0; i < n; i++) {
                tried.copyFrom(now);
                tried.z = z;
                if (tried.passDayByDraws() > usual) {
                    lucky++;
                }
                z = tried.z;
            }
            return lucky;
        }
    }

    /**
     * The best pairs of all. What two partners say depends on no third one, so each pair is tried
     * once, and the best sum for each set of people is built from those of smaller sets.
     */
    private static final class Pairings {
        private final Town now;
        private final Town few = new Town();
        // At one * MOST_PEOPLE + other, the lesser one first; with itself: alone.
        private final int[] sounds = new int[MOST_PEOPLE * MOST_PEOPLE];
        private final int[] mostOfSet = new int[1 << MOST_PEOPLE];

        Pairings(Town now) {
            this.now = now;
        }

        void weigh(int n) {
            for (int one = 0; one < now.count; one++) {
                for (int other = one; other < now.count; other++) {
                    takeOnly(one, other);
                    sounds[one * MOST_PEOPLE + other] = few.pass(n);
                }
            }
            mostOfSet[0] = 0;
            int everyone = everyone();
            for (int set = 1; set <= everyone; set++) {
                mostOfSet[set] = mostWith(firstOf(set), set);
            }
        }

        private void takeOnly(int one, int other) {
            few.copyLawsAndDay(now);
            few.count = 0;
            few.add(now.kind[one], now.need[one], now.saved[one], now.voice[one]);
            if (one != other) {
                few.add(now.kind[other], now.need[other], now.saved[other], now.voice[other]);
                few.join(0, 1);
            }
        }

        private int everyone() {
            return (1 << now.count) - 1;
        }

        private int firstOf(int set) {
            for (int one = 0; one < MOST_PEOPLE; one++) {
                if ((set >> one & 1) == 1) {
                    return one;
                }
            }
            return 0;
        }

        private int mostWith(int one, int set) {
            int most = 0;
            for (int other = one; other < now.count; other++) {
                if ((set >> other & 1) == 1) {
                    most = Math.max(most, soundIf(one, other, set));
                }
            }
            return most;
        }

        private int soundIf(int one, int other, int set) {
            return sounds[one * MOST_PEOPLE + other] + mostOfSet[without(one, other, set)];
        }

        private int without(int one, int other, int set) {
            return set & ~(1 << one | 1 << other);
        }

        int mostSound() {
            return mostOfSet[everyone()];
        }

        /** The partner, or the person itself, if it is alone. */
        int partnerInFirstWay(int person) {
            int left = everyone();
            for (int one = 0; one < now.count; one++) {
                if ((left >> one & 1) == 1) {
                    int other = firstChoice(one, left);
                    if (one == person) {
                        return other;
                    }
                    if (other == person) {
                        return one;
                    }
                    left = without(one, other, left);
                }
            }
            return person;
        }

        // All lesser ones have their partners already, so being alone comes first of itself.
        private int firstChoice(int one, int left) {
            for (int other = one; other < now.count; other++) {
                if ((left >> other & 1) == 1 && soundIf(one, other, left) == mostOfSet[left]) {
                    return other;
                }
            }
            return one;
        }
    }

    private static final class Tape {
        final byte[] bytes = new byte[MOST_BYTES];
        int length;

        Tape() {
            length = 0;
        }

        void take(long eight, int n) {
            for (int i = 0; i < n && length < MOST_BYTES; i++) {
                bytes[length] = (byte) (eight >>> (8 * i));
                length++;
            }
        }
    }

    /**
     * Reads the tape, one name, number or other byte ahead. Where it stops with false, what was
     * read ahead is what is at fault.
     */
    private static final class Telling {
        private static final int END = 0, NAME = 1, NUMBER = 2, OTHER = 3;
        private static final int MOST_DIGITS = 3;
        private static final int TOO_GREAT = 1000;
        private static final int WRONG = -1;

        private final Tape tape;
        private final Town told;
        private int place;
        private int sort;
        private int value;
        int start;

        Telling(Tape tape, Town told) {
            this.tape = tape;
            this.told = told;
        }

        boolean readTown() {
            place = 0;
            readAhead();
            boolean right = true;
            // Each sentence takes a byte at least.
            for (int i = 0; i < MOST_BYTES && right && sort != END; i++) {
                int law = lawNamed();
                if (law != WRONG) {
                    right = readLaw(law);
                } else if (isName("pair")) {
                    right = readPair();
                } else {
                    right = readPerson();
                }
            }
            return right && sort == END;
        }

        private boolean readPerson() {
            int kind = kindNamed();
            if (kind == WRONG || told.count >= MOST_PEOPLE) {
                return false;
            }
            readAhead();
            int need = readOption("need", MOST_NEED, 0);
            if (need == WRONG) {
                return false;
            }
            int saved = readOption("saved", MOST_SAVED, 0);
            if (saved == WRONG) {
                return false;
            }
            int voice = readOption("voice", MOST_VOICE, 3);
            if (voice == WRONG || !readSemicolon()) {
                return false;
            }
            told.add(kind, need, saved, voice);
            return true;
        }

        private boolean readLaw(int law) {
            readAhead();
            int v = readNumber(mostOfLaw(law));
            if (v == WRONG || !readSemicolon()) {
                return false;
            }
            told.laws[law] = v;
            return true;
        }

        private boolean readPair() {
            readAhead();
            int first = readNumber(told.count - 1);
            if (first == WRONG || !isName("with")) {
                return false;
            }
            readAhead();
            if (sort == NUMBER && value == first) {
                return false;
            }
            int second = readNumber(told.count - 1);
            if (second == WRONG || !readSemicolon()) {
                return false;
            }
            told.join(first, second);
            return true;
        }

        private int readOption(String name, int most, int without) {
            if (!isName(name)) {
                return without;
            }
            readAhead();
            return readNumber(most);
        }

        private int readNumber(int most) {
            if (sort != NUMBER || value > most) {
                return WRONG;
            }
            int number = value;
            readAhead();
            return number;
        }

        private boolean readSemicolon() {
            if (sort != OTHER || tape.bytes[start] != ';') {
                return false;
            }
            readAhead();
            return true;
        }

        private int kindNamed() {
            if (isName("citizen")) {
                return CITIZEN;
            }
            if (isName("wife")) {
                return WIFE;
            }
            if (isName("monk")) {
                return MONK;
            }
            if (isName("hawker")) {
                return HAWKER;
            }
            if (isName("prior")) {
                return PRIOR;
            }
            return isName("child") ? CHILD : WRONG;
        }

        private int lawNamed() {
            if (isName("loud")) {
                return LOUD;
            }
            if (isName("quiet")) {
                return QUIET;
            }
            if (isName("growth")) {
                return GROWTH;
            }
            return isName("lot") ? LOT : WRONG;
        }

        private boolean isName(String name) {
            if (sort != NAME || place - start != name.length()) {
                return false;
            }
            for (int i = 0; i < name.length(); i++) {
                if (tape.bytes[start + i] != name.charAt(i)) {
                    return false;
                }
            }
            return true;
        }

        private void readAhead() {
            while (place < tape.length && tape.bytes[place] == ' ') {
                place++;
            }
            start = place;
            if (place >= tape.length) {
                sort = END;
            } else if (isLetter(tape.bytes[place])) {
                sort = NAME;
                while (place < tape.length && isLetter(tape.bytes[place])) {
                    place++;
                }
            } else if (isDigit(tape.bytes[place])) {
                sort = NUMBER;
                value = 0;
                while (place < tape.length && isDigit(tape.bytes[place])) {
                    boolean tooLong = place - start >= MOST_DIGITS;
                    value = tooLong ? TOO_GREAT : value * 10 + (tape.bytes[place] - '0');
                    place++;
                }
            } else {
                sort = OTHER;
                place++;
            }
        }

        private static boolean isLetter(byte b) {
            return b >= 'a' && b <= 'z';
        }

        private static boolean isDigit(byte b) {
            return b >= '0' && b <= '9';
        }
    }

    /** The rows that one is to have behind the next days, and their reader. */
    private static final class DayRows {
        private static final int WIDTH = 3;

        private final Town now;
        private final Town tried;
        final int[] numbers = new int[MOST_ROWS * WIDTH];
        int count;

        DayRows(Town now, Town tried) {
            this.now = now;
            this.tried = tried;
        }

        boolean has(int i, int what) {
            return i >= 0 && i < count && what >= 0 && what < WIDTH;
        }

        int placeOf(int i, int what) {
            return i * WIDTH + what;
        }

        void write(int person, int n) {
            tried.copyFrom(now);
            for (int i = 0; i < n; i++) {
                int said = tried.passDay();
                numbers[placeOf(i, 0)] = tried.need[person];
                numbers[placeOf(i, 1)] = tried.saved[person];
                numbers[placeOf(i, 2)] = said;
            }
            count = n;
        }

        /** The first row that isn't right, and 1 more; 0 if all are. */
        int firstWrong(int person) {
            tried.copyFrom(now);
            for (int i = 0; i < count; i++) {
                int said = tried.passDay();
                if (numbers[placeOf(i, 0)] != tried.need[person]
                        || numbers[placeOf(i, 1)] != tried.saved[person]
                        || numbers[placeOf(i, 2)] != said) {
                    return i + 1;
                }
            }
            return 0;
        }
    }

    /** A sheet's row; whatever its sort, its items are held as longs that are narrowed to it. */
    private static final class SheetRow {
        final int sort;
        final long[] items;

        SheetRow(int sort, int n) {
            this.sort = sort;
            this.items = new long[Math.max(0, Math.min(MOST_ITEMS, n))];
        }

        boolean has(int i) {
            return i >= 0 && i < items.length;
        }

        long narrowed(int v) {
            switch (sort) {
                case 0: return (byte) v;
                case 1: return (short) v;
                default: return v;
            }
        }
    }

    /**
     * An act of a thing, and the trace of its bodies. Each method here is one act as all kinds
     * have it: the bodies begin from the kind's own down to the citizen's, and then change the
     * citizen's answer from there up.
     */
    private static final class Deed {
        final int[] bodies = new int[MOST_BODIES];
        int begun;
        boolean partedByZero;
        private int kind;
        private int number;
        private int voice;

        Deed() {
            begun = 0;
        }

        void forget() {
            begun = 0;
            partedByZero = false;
        }

        int run(Town town, int person, int act, int x) {
            kind = town.kind[person];
            number = person;
            voice = town.voice[person];
            switch (act) {
                case 0: return mutters(x);
                case 1: return says(x);
                case 2: return parts(x);
                default: return shouts(x);
            }
        }

        private void begin(int body) {
            if (begun < MOST_BODIES) {
                bodies[begun] = body;
                begun++;
            }
        }

        private boolean isWifely() {
            return kind == WIFE || kind == HAWKER;
        }

        private boolean isMonkish() {
            return kind == MONK || kind == PRIOR;
        }

        private int mutters(int x) {
            if (kind == HAWKER) {
                begin(51);
            }
            if (kind == PRIOR) {
                begin(40);
            }
            if (isMonkish()) {
                begin(30);
            }
            begin(10);
            int answer = x + number * 6;
            if (isMonkish()) {
                answer = 0 - answer;
            }
            if (kind == PRIOR) {
                answer = answer - 5;
            }
            if (kind == HAWKER) {
                answer = answer + 7;
            }
            return answer;
        }

        private int says(int x) {
            if (kind == PRIOR) {
                begin(41);
            }
            if (isWifely()) {
                begin(20);
            }
            begin(11);
            int answer = mutters(x) * 2 + voice;
            if (isWifely()) {
                answer = answer * 3;
            }
            if (kind == PRIOR) {
                answer = answer ^ mutters(voice);
            }
            return answer;
        }

        private int parts(int x) {
            if (kind == HAWKER) {
                begin(50);
            }
            if (kind == CHILD) {
                begin(61);
            }
            begin(12);
            int by = voice - number;
            // Nothing begins behind this: what would have followed the parting never ran.
            if (by == 0) {
                partedByZero = true;
                return 0;
            }
            if (kind == HAWKER) {
                return x * 2 / by + number;
            }
            if (kind == CHILD) {
                return x / by + mutters(number);
            }
            return x / by;
        }

        private int shouts(int x) {
            if (isMonkish()) {
                begin(31);
            }
            if (kind == CHILD) {
                begin(60);
            }
            begin(13);
            int answer = says(x) ^ 60;
            if (isMonkish()) {
                answer = answer + parts(number);
            }
            if (kind == CHILD) {
                answer = 9 - answer;
            }
            return answer;
        }
    }
}
