import java.math.BigInteger;
import java.util.ArrayList;
import java.util.Arrays;
import java.util.List;
import java.util.function.Consumer;
import java.util.regex.Matcher;
import java.util.regex.Pattern;

/**
 * The document once more, as plainly as Java lets one say it: a class for each kind, whole copies
 * for all that is tried, every way of pairing tried in turn, and the host's own refusals caught.
 */
final class PlainTown {
    private static final int BAD = -1, FULL = -2, NONE = -3;

    static class Citizen implements Cloneable {
        World world;
        int number, need, saved, voice;
        Citizen partner;
        boolean speaks = true;

        int says() { return voice; }
        int grows() { return world.laws[2]; }
        int saves() { return 1; }

        int mutters(int x) { ran(10); return x + number * 6; }
        int talks(int x) { ran(11); return mutters(x) * 2 + voice; }
        int parts(int x) { ran(12); return x / (voice - number); }
        int shouts(int x) { ran(13); return talks(x) ^ 60; }

        List<Integer> trace;
        void ran(int body) { if (trace.size() < 30) trace.add(body); }

        Citizen copy() {
            try {
                return (Citizen) clone();
            } catch (CloneNotSupportedException e) {
                throw new AssertionError(e);
            }
        }
    }

    static class Wife extends Citizen {
        @Override int says() { return super.says() + world.laws[0]; }
        @Override int grows() { return super.grows() + 1; }
        @Override int saves() { return 0; }
        @Override int talks(int x) { ran(20); return super.talks(x) * 3; }
    }

    static final class Hawker extends Wife {
        @Override int says() { return super.says() * 2; }
        @Override int grows() { return super.grows() + world.laws[0]; }
        @Override int parts(int x) { ran(50); return super.parts(x * 2) + number; }
        @Override int mutters(int x) { ran(51); return super.mutters(x) + 7; }
    }

    static class Monk extends Citizen {
        @Override int says() { return Math.max(0, super.says() - world.laws[1]); }
        @Override int grows() { return super.grows() / 2; }
        @Override int saves() { return super.saves() + world.laws[1]; }
        @Override int mutters(int x) { ran(30); return 0 - super.mutters(x); }
        @Override int shouts(int x) { ran(31); return super.shouts(x) + parts(number); }
    }

    static final class Prior extends Monk {
        @Override int says() { return super.says() + saved / 10; }
        @Override int grows() { return super.grows() - 2; }
        @Override int saves() { return super.saves() * 3; }
        @Override int mutters(int x) { ran(40); return super.mutters(x) - 5; }
        @Override int talks(int x) { ran(41); return super.talks(x) ^ mutters(voice); }
    }

    static final class Child extends Citizen {
        @Override int says() { return world.day % 2 == 0 ? super.says() : 1; }
        @Override int grows() { return super.grows() + voice; }
        @Override int saves() { return world.day % 7 == 0 ? super.saves() : 0; }
        @Override int shouts(int x) { ran(60); return 9 - super.shouts(x); }
        @Override int parts(int x) { ran(61); return super.parts(x) + mutters(number); }
    }

    private static final Class<?>[] KINDS =
            {Citizen.class, Wife.class, Monk.class, Hawker.class, Prior.class, Child.class};

    static Citizen ofKind(int kind) {
        switch (kind) {
            case 0: return new Citizen();
            case 1: return new Wife();
            case 2: return new Monk();
            case 3: return new Hawker();
            case 4: return new Prior();
            default: return new Child();
        }
    }

    static int kindOf(Citizen one) {
        return Arrays.asList(KINDS).indexOf(one.getClass());
    }

    static final class World {
        int[] laws = {2, 1, 3, 20};
        List<Citizen> people = new ArrayList<>();
        int day, heard, geese, z = 1;

        World copy() {
            World w = new World();
            w.laws = laws.clone();
            w.day = day;
            w.heard = heard;
            w.geese = geese;
            w.z = z;
            for (Citizen one : people) {
                Citizen c = one.copy();
                c.world = w;
                w.people.add(c);
            }
            for (Citizen c : w.people) {
                if (c.partner != null) c.partner = w.people.get(c.partner.number);
            }
            return w;
        }

        int add(Citizen one, int need, int saved, int voice) {
            one.world = this;
            one.number = people.size();
            one.need = need;
            one.saved = saved;
            one.voice = voice;
            people.add(one);
            return one.number;
        }

        void become(int person, int kind) {
            Citizen was = people.get(person);
            Citizen is = ofKind(kind);
            is.world = this;
            is.number = person;
            is.need = was.need;
            is.saved = was.saved;
            is.voice = was.voice;
            is.speaks = was.speaks;
            is.partner = was.partner;
            if (is.partner != null) is.partner.partner = is;
            people.set(person, is);
        }

        void alone(Citizen a) {
            if (a.partner != null) {
                a.partner.speaks = true;
                a.partner.partner = null;
            }
            a.partner = null;
            a.speaks = true;
        }

        void pair(Citizen a, Citizen b) {
            alone(a);
            alone(b);
            a.partner = b;
            b.partner = a;
            b.speaks = false;
        }

        int aDay() {
            for (Citizen c : people) {
                c.need += c.grows();
                if (c.need < 0) c.need = 0;
                while (c.need > 99) {
                    c.need--;
                    if (geese < 99999) geese++;
                }
            }
            int said = 0;
            for (Citizen c : people) {
                if (!c.speaks) continue;
                int left = c.says() * (c.partner == null ? 1 : 2);
                for (; left > 0 && c.need > 0; left--, said++) c.need--;
                for (; left > 0 && c.partner != null && c.partner.need > 0; left--, said++) c.partner.need--;
            }
            for (Citizen c : people) {
                if (c.speaks) continue;
                for (int k = c.saves(); k > 0 && c.need > 0 && c.saved < 99; k--) {
                    c.need--;
                    c.saved++;
                }
            }
            for (Citizen c : people) {
                if (c.partner != null) c.speaks = !c.speaks;
            }
            heard = Math.min(99999, heard + said);
            day++;
            return said;
        }

        int draw() {
            z = z * 1103515245 + 12345;
            return z >>> 16;
        }

        int aDayByDraws() {
            if (!people.isEmpty()) {
                Citizen one = people.get(draw() % people.size());
                if (draw() % 100 < laws[3]) {
                    Citizen other = people.get(draw() % people.size());
                    if (one == other) alone(one); else pair(one, other);
                }
            }
            return aDay();
        }
    }

    private World w = new World();
    private World kept;
    private final List<Byte> tape = new ArrayList<>();
    private int[][] rows = new int[0][];
    private final Object[] sheets = new Object[4];
    /** An Integer is one of the people, an array a sheet's row. */
    private final Object[] shelves = new Object[4];
    private List<Integer> trace = new ArrayList<>();

    private boolean no(int person) { return person < 0 || person >= w.people.size(); }
    private static boolean out(int v, int least, int most) { return v < least || v > most; }
    private Citizen one(int person) { return w.people.get(person); }

    int feed(long eight, int n) {
        if (out(n, 1, 8)) return BAD;
        if (tape.size() + n > 200) return FULL;
        for (int i = 0; i < n; i++) {
            tape.add((byte) (eight & 255));
            eight >>= 8;
        }
        return tape.size();
    }

    // ---- the text

    private static final class Fault extends RuntimeException {
        private static final long serialVersionUID = 1L;
        final int place;
        Fault(int place) { super("fault"); this.place = place; }
    }

    private List<String> words;
    private List<Integer> places;
    private int at;

    private String word() { return at < words.size() ? words.get(at) : "end"; }
    private Fault fault() { return new Fault(at < places.size() ? places.get(at) : tape.size()); }

    private void want(String w) {
        if (at >= words.size() || !word().equals(w)) throw fault();
        at++;
    }

    private int number(int least, int most, int not) {
        if (at >= words.size() || !word().matches("[0-9]{1,3}")) throw fault();
        int v = Integer.parseInt(word());
        if (out(v, least, most) || v == not) throw fault();
        at++;
        return v;
    }

    private int option(String name, int most, int without) {
        if (at >= words.size() || !word().equals(name)) return without;
        at++;
        return number(0, most, -1);
    }

    int town() {
        StringBuilder text = new StringBuilder();
        for (byte b : tape) text.append((char) (b & 255));
        words = new ArrayList<>();
        places = new ArrayList<>();
        Matcher m = Pattern.compile("[a-z]+|[0-9]+|[^ ]", Pattern.DOTALL).matcher(text);
        while (m.find()) {
            words.add(m.group());
            places.add(m.start());
        }
        at = 0;
        World t = new World();
        t.z = w.z;
        List<String> kinds = Arrays.asList("citizen", "wife", "monk", "hawker", "prior", "child");
        List<String> laws = Arrays.asList("loud", "quiet", "growth", "lot");
        try {
            while (at < words.size()) {
                String name = word();
                if (kinds.contains(name)) {
                    if (t.people.size() == 8) throw fault();
                    at++;
                    int need = option("need", 99, 0);
                    int saved = option("saved", 99, 0);
                    int voice = option("voice", 9, 3);
                    want(";");
                    t.add(ofKind(kinds.indexOf(name)), need, saved, voice);
                } else if (name.equals("pair")) {
                    at++;
                    int a = number(0, t.people.size() - 1, -1);
                    want("with");
                    int b = number(0, t.people.size() - 1, a);
                    want(";");
                    t.pair(t.people.get(a), t.people.get(b));
                } else if (laws.contains(name)) {
                    at++;
                    int v = number(0, name.equals("lot") ? 99 : 9, -1);
                    want(";");
                    t.laws[laws.indexOf(name)] = v;
                } else {
                    throw fault();
                }
            }
        } catch (Fault f) {
            tape.clear();
            return -100 - f.place;
        }
        tape.clear();
        rows = new int[0][];
        w = t;
        return w.people.size();
    }

    // ---- the town

    int set(int law, int v) {
        if (out(law, 0, 3) || out(v, 0, law == 3 ? 99 : 9)) return BAD;
        int was = w.laws[law];
        w.laws[law] = v;
        return was;
    }

    int lawOf(int law) { return out(law, 0, 3) ? BAD : w.laws[law]; }

    int person(int kind, int need, int saved, int voice) {
        if (out(kind, 0, 5) || out(need, 0, 99) || out(saved, 0, 99) || out(voice, 0, 9)) return BAD;
        if (w.people.size() == 8) return FULL;
        return w.add(ofKind(kind), need, saved, voice);
    }

    int of(int person, int what) {
        if (no(person) || out(what, 0, 5)) return BAD;
        Citizen c = one(person);
        int partner = c.partner == null ? 0 : 1 + c.partner.number;
        return new int[] {kindOf(c), c.need, c.saved, c.voice, partner, c.speaks ? 1 : 0}[what];
    }

    int does(int person, int what) {
        if (no(person) || out(what, 0, 2)) return BAD;
        Citizen c = one(person);
        return 1000 + new int[] {c.says(), c.grows(), c.saves()}[what];
    }

    int mind(int person, int kind, int voice) {
        if (no(person) || out(kind, 0, 5) || out(voice, 0, 9)) return BAD;
        int was = kindOf(one(person));
        w.become(person, kind);
        one(person).voice = voice;
        return was;
    }

    int change(int person, int what, int v) {
        if (no(person) || out(what, 1, 2) || out(v, 0, 99)) return BAD;
        int was = what == 1 ? one(person).need : one(person).saved;
        if (what == 1) one(person).need = v; else one(person).saved = v;
        return was;
    }

    int pair(int person, int other) {
        if (no(person) || no(other) || person == other) return BAD;
        int were = one(person).partner == one(other) ? 1 : 0;
        w.pair(one(person), one(other));
        return were;
    }

    int leave(int person) {
        if (no(person)) return BAD;
        int had = one(person).partner == null ? 0 : 1;
        w.alone(one(person));
        return had;
    }

    int spend(int person) {
        if (no(person)) return BAD;
        Citizen c = one(person);
        while (c.saved > 0 && c.need < 99) {
            c.saved--;
            c.need++;
        }
        return c.need;
    }

    int days(int n) {
        if (out(n, 1, 60)) return BAD;
        for (int i = 0; i < n; i++) w.aDay();
        return w.heard;
    }

    int seed(int v) {
        int was = w.z;
        w.z = v;
        return was;
    }

    int day() { return w.aDayByDraws(); }

    int luck(int n) {
        if (out(n, 1, 30)) return BAD;
        int z = w.z, lucky = 0;
        for (int i = 0; i < n; i++) {
            World t = w.copy();
            t.z = z;
            if (t.aDayByDraws() > sound(1)) lucky++;
            z = t.z;
        }
        return lucky;
    }

    int state(int what) {
        int need = 0, saved = 0, speak = 0;
        for (Citizen c : w.people) {
            need += c.need;
            saved += c.saved;
            if (c.speaks) speak += 1 << c.number;
        }
        return out(what, 0, 5) ? BAD : new int[] {w.day, w.heard, w.geese, need, saved, speak}[what];
    }

    // ---- what is tried

    private int soundWith(int n, Consumer<World> first) {
        World t = w.copy();
        first.accept(t);
        int said = 0;
        for (int i = 0; i < n; i++) said += t.aDay();
        return said;
    }

    int sound(int n) { return out(n, 0, 60) ? BAD : soundWith(n, t -> { }); }

    private int firstNeed(int person, int need) {
        if (no(person)) return BAD;
        World t = w.copy();
        for (int d = 0; d <= 60; d++, t.aDay()) {
            if (t.people.get(person).need == need) return d;
        }
        return NONE;
    }

    int eased(int person) { return firstNeed(person, 0); }
    int full(int person) { return firstNeed(person, 99); }

    int hush() {
        World t = w.copy();
        for (int d = 0; d <= 60; d++, t.aDay()) {
            if (t.people.stream().allMatch(c -> c.need == 0)) return d;
        }
        return NONE;
    }

    int partnerFor(int person, int n) {
        if (no(person) || out(n, 1, 20)) return BAD;
        int found = NONE, most = sound(n);
        for (int other = 0; other < w.people.size(); other++) {
            if (other == person) continue;
            int o = other;
            int s = soundWith(n, t -> t.pair(t.people.get(person), t.people.get(o)));
            if (s > most) {
                most = s;
                found = other;
            }
        }
        return found;
    }

    int kindFor(int person, int n) {
        if (no(person) || out(n, 1, 20)) return BAD;
        int[] sounds = new int[6];
        for (int kind = 0; kind < 6; kind++) {
            int k = kind;
            sounds[k] = soundWith(n, t -> t.become(person, k));
        }
        int most = Arrays.stream(sounds).max().getAsInt();
        for (int kind = 0; kind < 6; kind++) {
            if (sounds[kind] == most) return kind;
        }
        return NONE;
    }

    int voiceFor(int person, int n, int v) {
        if (no(person) || out(n, 1, 20) || out(v, 0, 9999)) return BAD;
        for (int voice = 0; voice <= 9; voice++) {
            int a = voice;
            if (soundWith(n, t -> t.people.get(person).voice = a) >= v) return voice;
        }
        return NONE;
    }

    private int mostSound;
    private int[] firstWay;

    /** Ways in their order, so that the first of the best comes first. */
    private void tryWays(int[] way, int one, int n) {
        if (one == way.length) {
            int s = soundWith(n, t -> {
                t.people.forEach(t::alone);
                for (int i = 0; i < way.length; i++) {
                    if (way[i] - 1 > i) t.pair(t.people.get(i), t.people.get(way[i] - 1));
                }
            });
            if (s > mostSound) {
                mostSound = s;
                firstWay = way.clone();
            }
        } else if (way[one] != 0) {
            tryWays(way, one + 1, n);
        } else {
            tryWays(way, one + 1, n);
            for (int other = one + 1; other < way.length; other++) {
                if (way[other] == 0) {
                    way[one] = other + 1;
                    way[other] = one + 1;
                    tryWays(way, one + 1, n);
                    way[one] = 0;
                    way[other] = 0;
                }
            }
        }
    }

    int best(int n) {
        if (out(n, 1, 5)) return BAD;
        mostSound = -1;
        tryWays(new int[w.people.size()], 0, n);
        return mostSound;
    }

    int bestOf(int n, int person) {
        if (out(n, 1, 5) || no(person)) return BAD;
        best(n);
        return firstWay[person];
    }

    private static long at(Object row, int i) {
        if (row instanceof byte[]) return ((byte[]) row)[i];
        if (row instanceof short[]) return ((short[]) row)[i];
        if (row instanceof int[]) return ((int[]) row)[i];
        return ((long[]) row)[i];
    }

    int fits(int sheet, int person, int what) {
        if (out(sheet, 0, 3) || no(person) || out(what, 0, 1)) return BAD;
        if (sheets[sheet] == null) return -11;
        List<Integer> fitting = new ArrayList<>();
        for (int voice = 0; voice <= 9; voice++) {
            World t = w.copy();
            t.people.get(person).voice = voice;
            boolean fit = true;
            for (int i = 0; i < java.lang.reflect.Array.getLength(sheets[sheet]); i++) {
                t.aDay();
                long told = at(sheets[sheet], i);
                fit &= told == -1 || told == t.people.get(person).need;
            }
            if (fit) fitting.add(voice);
        }
        return what == 0 ? fitting.size() : fitting.isEmpty() ? NONE : fitting.get(0);
    }

    private static long fraction(BigInteger above, BigInteger below, int part) {
        BigInteger d = above.gcd(below);
        return (part == 0 ? above : below).divide(d).longValueExact();
    }

    long odds(int n, int k, int part) {
        if (out(n, 0, 8) || out(k, 0, n) || out(part, 0, 1)) return BAD;
        // ways[j]: of the lots so far just j, in hundredths to their power
        BigInteger[] ways = new BigInteger[n + 2];
        Arrays.fill(ways, BigInteger.ZERO);
        ways[0] = BigInteger.ONE;
        for (int i = 0; i < n; i++) {
            for (int j = i + 1; j >= 0; j--) {
                BigInteger not = ways[j].multiply(BigInteger.valueOf(100 - w.laws[3]));
                BigInteger drawn = j == 0 ? BigInteger.ZERO : ways[j - 1].multiply(BigInteger.valueOf(w.laws[3]));
                ways[j] = not.add(drawn);
            }
        }
        return fraction(ways[k], BigInteger.valueOf(100).pow(n), part);
    }

    long hope(int n, int part) {
        if (out(n, 0, 99) || out(part, 0, 1)) return BAD;
        return fraction(BigInteger.valueOf(n * w.laws[3]), BigInteger.valueOf(100), part);
    }

    // ---- rows, sheets, shelves, acts

    private int[][] rowsOf(int person, int n) {
        World t = w.copy();
        int[][] made = new int[n][];
        for (int i = 0; i < n; i++) {
            int said = t.aDay();
            made[i] = new int[] {t.people.get(person).need, t.people.get(person).saved, said};
        }
        return made;
    }

    int prove(int person, int n) {
        if (no(person) || out(n, 1, 10)) return BAD;
        rows = rowsOf(person, n);
        return n;
    }

    int row(int i, int what) {
        try {
            return rows[i][what];
        } catch (ArrayIndexOutOfBoundsException e) {
            return -9;
        }
    }

    int alterRow(int i, int what, int v) {
        try {
            int was = rows[i][what];
            rows[i][what] = v;
            return was;
        } catch (ArrayIndexOutOfBoundsException e) {
            return -9;
        }
    }

    int judge(int person) {
        if (no(person)) return BAD;
        int[][] right = rowsOf(person, rows.length);
        for (int i = 0; i < rows.length; i++) {
            if (!Arrays.equals(rows[i], right[i])) return i + 1;
        }
        return 0;
    }

    int minds(int sheet, int i, int person, int n) {
        if (out(sheet, 0, 3) || no(person) || out(n, 0, 8) || person + n > w.people.size()) return BAD;
        try {
            byte[] bytes = (byte[]) sheets[sheet];
            byte[] told = new byte[n];
            System.arraycopy(bytes, i, told, 0, n);
            for (int k = 0; k < n; k++) one(person + k).need = Math.min(99, Math.max(0, told[k]));
            return n;
        } catch (NullPointerException e) {
            return -11;
        } catch (ClassCastException e) {
            return -13;
        } catch (IndexOutOfBoundsException e) {
            return -12;
        }
    }

    int sheet(int sheet, int sort, int n) {
        if (out(sheet, 0, 3) || out(sort, -1, 3) || sort >= 0 && n > 40) return BAD;
        try {
            switch (sort) {
                case 0: sheets[sheet] = new byte[n]; break;
                case 1: sheets[sheet] = new short[n]; break;
                case 2: sheets[sheet] = new int[n]; break;
                case 3: sheets[sheet] = new long[n]; break;
                default: sheets[sheet] = null;
            }
            return 1;
        } catch (NegativeArraySizeException e) {
            return -14;
        }
    }

    int put(int sheet, int i, int v) {
        if (out(sheet, 0, 3)) return BAD;
        Object row = sheets[sheet];
        if (row == null) return -11;
        try {
            if (row instanceof byte[]) ((byte[]) row)[i] = (byte) v;
            else if (row instanceof short[]) ((short[]) row)[i] = (short) v;
            else if (row instanceof int[]) ((int[]) row)[i] = v;
            else ((long[]) row)[i] = v;
            return 1;
        } catch (ArrayIndexOutOfBoundsException e) {
            return -12;
        }
    }

    int item(int sheet, int sort, int i) {
        if (out(sheet, 0, 3) || out(sort, 0, 3)) return BAD;
        Object row = sheets[sheet];
        try {
            switch (sort) {
                case 0: return ((byte[]) row)[i];
                case 1: return ((short[]) row)[i];
                case 2: return ((int[]) row)[i];
                default: return (int) ((long[]) row)[i];
            }
        } catch (NullPointerException e) {
            return -11;
        } catch (ClassCastException e) {
            return -13;
        } catch (ArrayIndexOutOfBoundsException e) {
            return -12;
        }
    }

    int shelf(int shelf, int what, int n) {
        if (out(shelf, 0, 3) || out(what, 0, 2)) return BAD;
        if (what == 0 && no(n) || what == 1 && out(n, 0, 3)) return BAD;
        shelves[shelf] = what == 0 ? (Object) n : what == 1 ? sheets[n] : null;
        return 1;
    }

    private Object held(int shelf) {
        Object o = shelves[shelf];
        if (o instanceof Integer) return no((Integer) o) ? null : one((Integer) o);
        return o;
    }

    int taken(int shelf, int as) {
        if (out(shelf, 0, 3) || out(as, 0, 5) && out(as, 10, 13)) return BAD;
        Object o = held(shelf);
        Class<?>[] sorts = {byte[].class, short[].class, int[].class, long[].class};
        if (o == null) return -11;
        try {
            if (as < 6) return ((Citizen) KINDS[as].cast(o)).number;
            return java.lang.reflect.Array.getLength(sorts[as - 10].cast(o));
        } catch (ClassCastException e) {
            return -13;
        }
    }

    int act(int shelf, int act, int x) {
        trace = new ArrayList<>();
        if (out(shelf, 0, 3) || out(act, 0, 3) || !(held(shelf) instanceof Citizen)) return 0;
        Citizen c = (Citizen) held(shelf);
        c.trace = trace;
        try {
            switch (act) {
                case 0: return c.mutters(x);
                case 1: return c.talks(x);
                case 2: return c.parts(x);
                default: return c.shouts(x);
            }
        } catch (ArithmeticException e) {
            return -15;
        }
    }

    int trace(int i) { return out(i, 0, trace.size() - 1) ? NONE : trace.get(i); }

    int many(int what) {
        int pairs = 0, speak = 0, fullOnes = 0;
        for (Citizen c : w.people) {
            if (c.partner != null) pairs++;
            if (c.speaks) speak++;
            if (c.need == 99) fullOnes++;
        }
        int[] all = {w.people.size(), pairs / 2, speak, fullOnes, rows.length, tape.size(), trace.size()};
        return out(what, 0, 6) ? BAD : all[what];
    }

    int keep() {
        kept = w.copy();
        return 1;
    }

    int again() {
        if (kept == null) return NONE;
        w = kept.copy();
        return w.people.size();
    }
}
