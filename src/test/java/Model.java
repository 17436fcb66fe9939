import java.math.BigInteger;
import java.util.ArrayList;
import java.util.Arrays;
import java.util.HashMap;
import java.util.List;
import java.util.Map;
import java.util.function.IntPredicate;
import java.util.regex.Matcher;
import java.util.regex.Pattern;

/** The document told a second time, in its own order and as plainly as can be: slow, and apart from the class. */
final class Model {
    static final class Finding extends RuntimeException {
        private static final long serialVersionUID = 1L;
        final int code;

        Finding(int code) {
            super(null, null, false, false);
            this.code = code;
        }
    }

    static class Person {
        int voice = 3;
        int[] views = new int[6];

        int moves(int g, int minute) {
            return 1;
        }

        int strokes(int g, int minute) {
            return voice;
        }
    }

    static class Deaf extends Person {
        @Override int moves(int g, int minute) {
            return 0;
        }

        @Override int strokes(int g, int minute) {
            return super.strokes(g, minute) + 2;
        }
    }

    static class Friend extends Deaf {
        @Override int moves(int g, int minute) {
            return super.moves(g, minute) + g / 2;
        }

        @Override int strokes(int g, int minute) {
            return super.strokes(g, minute) / 2;
        }
    }

    static class Lawyer extends Person {
        @Override int moves(int g, int minute) {
            return 0 - super.moves(g, minute);
        }

        @Override int strokes(int g, int minute) {
            return super.strokes(g, minute) + g;
        }
    }

    static class Master extends Lawyer {
        @Override int moves(int g, int minute) {
            return minute % 2 == 0 ? super.moves(g, minute) : 1;
        }

        @Override int strokes(int g, int minute) {
            return Math.max(0, super.strokes(g, minute) - 1);
        }
    }

    static class Trinity extends Master {
        @Override int moves(int g, int minute) {
            return super.moves(g, minute) + (g > 5 ? 1 : 0);
        }

        @Override int strokes(int g, int minute) {
            return 2 * super.strokes(g, minute);
        }
    }

    static class Wed extends Person {
        @Override int moves(int g, int minute) {
            return g;
        }

        @Override int strokes(int g, int minute) {
            return super.strokes(g, minute) + (minute % 7 == 0 ? 10 : 0);
        }
    }

    static final List<Class<?>> KINDS = Arrays.asList(Person.class, Deaf.class, Lawyer.class, Master.class,
            Trinity.class, Wed.class, Friend.class);
    static final List<String> WORDS = Arrays.asList("person", "deaf", "lawyer", "master", "trinity", "wed", "friend");

    static Person make(int kind) {
        switch (kind) {
            case 0: return new Person();
            case 1: return new Deaf();
            case 2: return new Lawyer();
            case 3: return new Master();
            case 4: return new Trinity();
            case 5: return new Wed();
            default: return new Friend();
        }
    }

    static Person like(Person p, int kind) {
        Person q = make(kind);
        q.voice = p.voice;
        q.views = p.views.clone();
        return q;
    }

    static int kindOf(Person p) {
        return KINDS.indexOf(p.getClass());
    }

    /** All that an image keeps. */
    static final class World {
        List<Person> people = new ArrayList<>();
        int water;
        int minute;
        int subject;
        int[] handle;
        int z = 1;
        Map<Integer, Integer> spots = new HashMap<>();
        long came;

        World copy() {
            World w = new World();
            for (Person p : people) {
                w.people.add(like(p, kindOf(p)));
            }
            w.water = water;
            w.minute = minute;
            w.subject = subject;
            w.handle = handle == null ? null : handle.clone();
            w.z = z;
            w.spots.putAll(spots);
            return w;
        }

        World after(int n) {
            World w = copy();
            for (int i = 0; i < n; i++) {
                w.pass();
            }
            return w;
        }

        void pass() {
            if (handle != null) {
                Person a = people.get(handle[0]);
                Person b = people.get(handle[1]);
                int va = a.views[subject];
                int vb = b.views[subject];
                int g = Math.abs(va - vb);
                if (g == 0) {
                    subject = subject == 5 ? 0 : subject + 1;
                } else {
                    int more = a.strokes(g, minute) + b.strokes(g, minute);
                    came += more;
                    water = Math.min(999999, water + more);
                    a.views[subject] = hold(va + Integer.signum(vb - va) * a.moves(g, minute));
                    b.views[subject] = hold(vb + Integer.signum(va - vb) * b.moves(g, minute));
                }
            }
            minute = Math.min(99999, minute + 1);
        }

        static int hold(int v) {
            return v > 9 ? 9 : v < -9 ? -9 : v;
        }

        boolean agree(int s) {
            return people.get(handle[0]).views[s] == people.get(handle[1]).views[s];
        }

        int quarrels() {
            int set = 0;
            for (int s = 0; s < 6; s++) {
                if (handle != null && !agree(s)) {
                    set += 1 << s;
                }
            }
            return set;
        }

        int voices() {
            return people.stream().mapToInt(p -> p.voice).sum();
        }

        boolean has(int p) {
            return p >= 0 && p < people.size();
        }

        int draw() {
            z = z * 1103515245 + 12345;
            return z >>> 8;
        }

        long gives(int a, int b, int n) {
            World w = copy();
            w.handle = new int[] {a, b};
            return w.after(n).came;
        }
    }

    World w = new World();
    World kept;
    List<Integer> tape = new ArrayList<>();
    int[][] sheets = new int[4][];
    int[] bits = new int[4];
    int[] found = new int[7];

    long call(String name, int[] a) {
        try {
            return answer(name, a);
        } catch (Finding f) {
            found[-1000001 - f.code]++;
            return f.code;
        }
    }

    static void ask(boolean right, int code) {
        if (!right) {
            throw new Finding(code);
        }
    }

    static boolean in(int v, int least, int most) {
        return v >= least && v <= most;
    }

    void askPerson(int p) {
        ask(w.has(p), Check.BEYOND);
    }

    void askIn(int v, int least, int most) {
        ask(in(v, least, most), Check.BEYOND);
    }

    void askTwo(int a, int b) {
        askPerson(a);
        askPerson(b);
        ask(a != b, Check.BEYOND);
    }

    void askSheet(int s) {
        askIn(s, 0, 3);
        ask(sheets[s] != null, Check.MISSING);
    }

    static int first(int from, int to, IntPredicate is) {
        for (int i = from; i <= to; i++) {
            if (is.test(i)) {
                return i;
            }
        }
        throw new Finding(Check.NONE);
    }

    interface Worth {
        long of(int v);
    }

    static int most(int from, int to, Worth worth) {
        int best = from;
        for (int v = from; v <= to; v++) {
            if (worth.of(v) > worth.of(best)) {
                best = v;
            }
        }
        return best;
    }

    World with(int p, int what, int v) {
        World x = w.copy();
        if (what == 0) {
            x.people.set(p, like(x.people.get(p), v));
        } else if (what == 1) {
            x.people.get(p).voice = v;
        } else {
            x.people.get(p).views[what - 2] = v;
        }
        return x;
    }

    long answer(String name, int[] a) {
        switch (name) {
            case "person": return person(a[0]);
            case "of": return of(a[0], a[1]);
            case "change": return change(a[0], a[1], a[2]);
            case "reply": return reply(a[0], a[1], a[2]);
            case "apart":
                askPerson(a[0]);
                askPerson(a[1]);
                askIn(a[2], 0, 5);
                return Math.abs(w.people.get(a[0]).views[a[2]] - w.people.get(a[1]).views[a[2]]);
            case "pair":
                askTwo(a[0], a[1]);
                w.handle = new int[] {a[0], a[1]};
                return Integer.bitCount(w.quarrels());
            case "rest": {
                int was = w.handle == null ? 0 : 1;
                w.handle = null;
                return was;
            }
            case "subject": {
                askIn(a[0], 0, 5);
                int was = w.subject;
                w.subject = a[0];
                return was;
            }
            case "go":
                askIn(a[0], 1, 100);
                ask(w.minute + a[0] <= 99999, -1000005);
                w = w.after(a[0]);
                return w.water;
            case "now":
                askIn(a[0], 0, 5);
                return new int[] {w.minute, w.water, w.subject,
                    w.handle == null ? -1 : 8 * w.handle[0] + w.handle[1], w.quarrels(), w.voices()}[a[0]];
            default: return ahead(name, a);
        }
    }

    private long ahead(String name, int[] a) {
        switch (name) {
            case "ahead":
                askIn(a[0], 0, 200);
                return w.after(a[0]).water;
            case "view":
                askPerson(a[0]);
                askIn(a[1], 0, 5);
                askIn(a[2], 0, 200);
                return w.after(a[2]).people.get(a[0]).views[a[1]];
            case "dry": return first(0, 300, n -> w.after(n).quarrels() == 0);
            case "filled":
                askIn(a[0], 0, 999999);
                return first(0, 300, n -> w.after(n).water >= a[0]);
            case "round": return first(1, 300, n -> same(w.after(n)));
            case "gives":
                askTwo(a[0], a[1]);
                askIn(a[2], 0, 60);
                return w.gives(a[0], a[1], a[2]);
            case "best":
                askIn(a[0], 0, 60);
                ask(w.people.size() > 1, Check.NONE);
                return most(1, 63, v -> v / 8 < v % 8 && w.has(v % 8) ? w.gives(v / 8, v % 8, a[0]) : -1);
            case "partner":
                askPerson(a[0]);
                askIn(a[1], 0, 60);
                ask(w.people.size() > 1, Check.NONE);
                return most(0, w.people.size() - 1, v -> v == a[0] ? -1 : w.gives(a[0], v, a[1]));
            case "subjectFor":
                askTwo(a[0], a[1]);
                askIn(a[2], 0, 60);
                return most(0, 5, v -> {
                    World x = w.copy();
                    x.subject = v;
                    return x.gives(a[0], a[1], a[2]);
                });
            case "matched":
                askIn(a[0], 0, 30);
                return match(a[0])[8];
            case "matchOf":
                askPerson(a[0]);
                askIn(a[1], 0, 30);
                return match(a[1])[a[0]];
            default: return asWhat(name, a);
        }
    }

    private boolean same(World x) {
        boolean is = x.subject == w.subject;
        for (int p = 0; p < w.people.size(); p++) {
            is &= Arrays.equals(x.people.get(p).views, w.people.get(p).views);
        }
        return is;
    }

    /** All ways there are are gone through, the least ones first; what they give is at 8. */
    private long[] match(int n) {
        long[][] gains = new long[8][8];
        for (int i = 0; i < w.people.size(); i++) {
            for (int j = i + 1; j < w.people.size(); j++) {
                gains[i][j] = w.gives(i, j, n);
            }
        }
        long[] best = new long[9];
        best[8] = -1;
        long[] way = new long[9];
        Arrays.fill(way, -2);
        way[8] = 0;
        ways(0, way, gains, best);
        return best;
    }

    private void ways(int p, long[] way, long[][] gains, long[] best) {
        if (p >= w.people.size()) {
            if (way[8] > best[8]) {
                System.arraycopy(way, 0, best, 0, 9);
            }
            return;
        }
        if (way[p] != -2) {
            ways(p + 1, way, gains, best);
            return;
        }
        for (int q = p + 1; q < w.people.size(); q++) {
            if (way[q] == -2) {
                way[p] = q;
                way[q] = p;
                way[8] += gains[p][q];
                ways(p + 1, way, gains, best);
                way[8] -= gains[p][q];
                way[q] = -2;
            }
        }
        way[p] = -1;
        ways(p + 1, way, gains, best);
        way[p] = -2;
    }

    private long asWhat(String name, int[] a) {
        switch (name) {
            case "kindFor":
                askTwo(a[0], a[1]);
                askIn(a[2], 0, 60);
                return most(0, 6, v -> with(a[0], 0, v).gives(a[0], a[1], a[2]));
            case "viewFor":
                askTwo(a[0], a[1]);
                askIn(a[2], 0, 5);
                askIn(a[3], 0, 60);
                return most(-9, 9, v -> with(a[0], 2 + a[2], v).gives(a[0], a[1], a[3]));
            case "voiceFor":
                askTwo(a[0], a[1]);
                askIn(a[2], 0, 9999);
                askIn(a[3], 0, 60);
                return first(0, 9, v -> with(a[0], 1, v).gives(a[0], a[1], a[3]) >= a[2]);
            case "fits":
            case "thought": {
                askSheet(a[0]);
                askPerson(a[1]);
                List<Integer> fitting = new ArrayList<>();
                for (int v = -9; v <= 9; v++) {
                    if (told(a[0], with(a[1], 2 + w.subject, v))) {
                        fitting.add(v);
                    }
                }
                if (name.equals("fits")) {
                    return fitting.size();
                }
                ask(!fitting.isEmpty(), Check.NONE);
                return fitting.get(0);
            }
            case "kinds": {
                askSheet(a[0]);
                askPerson(a[1]);
                int set = 0;
                for (int kind = 0; kind < 7; kind++) {
                    set += told(a[0], with(a[1], 0, kind)) ? 1 << kind : 0;
                }
                return set;
            }
            case "quarrels":
                askIn(a[0], 1, 20);
                ask(w.minute + a[0] <= 99999, -1000005);
                for (int i = 0; i < a[0]; i++) {
                    int p = w.draw() % 8;
                    int q = w.draw() % 8;
                    if (w.has(p) && w.has(q) && p != q) {
                        w.handle = new int[] {p, q};
                    }
                    w.pass();
                }
                return w.water;
            case "odds": return odds(a[0], a[1]);
            default: return rest(name, a);
        }
    }

    private boolean told(int s, World x) {
        boolean is = true;
        for (int i = 0; i < sheets[s].length; i++) {
            is &= sheets[s][i] == -1 || sheets[s][i] == x.after(i).water;
        }
        return is;
    }

    private long odds(int n, int what) {
        askIn(n, 0, 10);
        askIn(what, 0, 1);
        int good = 0;
        for (int p = 0; p < 8; p++) {
            for (int q = 0; q < 8; q++) {
                good += w.has(p) && w.has(q) && p != q ? 1 : 0;
            }
        }
        BigInteger above = BigInteger.valueOf(good).pow(n);
        BigInteger below = BigInteger.valueOf(64).pow(n);
        return (what == 0 ? above : below).divide(above.gcd(below)).longValueExact();
    }

    private long person(int kind) {
        askIn(kind, 0, 6);
        ask(w.people.size() < 8, Check.FULL);
        w.people.add(make(kind));
        return w.people.size() - 1;
    }

    private long of(int p, int what) {
        askPerson(p);
        askIn(what, 0, 8);
        Person one = w.people.get(p);
        if (what == 8) {
            return w.handle != null && (w.handle[0] == p || w.handle[1] == p) ? 1 : 0;
        }
        return what == 0 ? kindOf(one) : what == 1 ? one.voice : one.views[what - 2];
    }

    private long change(int p, int what, int v) {
        askPerson(p);
        askIn(what, 0, 7);
        askIn(v, what < 2 ? 0 : -9, what == 0 ? 6 : 9);
        long was = of(p, what);
        w = with(p, what, v);
        return was;
    }

    private long reply(int p, int g, int what) {
        askPerson(p);
        askIn(g, 1, 18);
        askIn(what, 0, 1);
        Person one = w.people.get(p);
        return what == 0 ? one.moves(g, w.minute) : one.strokes(g, w.minute);
    }

    private long rest(String name, int[] a) {
        switch (name) {
            case "seed": {
                int was = w.z;
                w.z = a[0];
                return was;
            }
            case "feed":
                askIn(a[1], 1, 4);
                ask(tape.size() + a[1] <= 120, Check.FULL);
                for (int i = 4 - a[1]; i < 4; i++) {
                    tape.add(a[0] >> (24 - 8 * i) & 0xff);
                }
                return tape.size();
            case "wipe": {
                int had = tape.size();
                tape.clear();
                return had;
            }
            case "text": return text();
            case "hold":
                askIn(a[0], 0, 9);
                ask(a[1] == -1 || w.has(a[1]), Check.BEYOND);
                w.spots.remove(a[0]);
                if (a[1] >= 0) {
                    w.spots.put(a[0], a[1]);
                }
                return 1;
            case "as":
                askIn(a[0], 0, 9);
                askIn(a[1], 0, 6);
                ask(w.spots.containsKey(a[0]), Check.MISSING);
                ask(KINDS.get(a[1]).isInstance(w.people.get(w.spots.get(a[0]))), Check.KIND);
                return w.spots.get(a[0]);
            case "image":
                kept = w.copy();
                return 1;
            case "undo":
                ask(kept != null, Check.NONE);
                w = kept.copy();
                return w.minute;
            case "tear": {
                int was = kept == null ? 0 : 1;
                kept = null;
                return was;
            }
            case "count":
                askIn(a[0], 0, 7);
                return new int[] {w.minute, w.people.size(), w.subject, w.water, w.voices(), tape.size(), w.z,
                    w.spots.size()}[a[0]];
            case "status":
                askIn(a[0], -1, 6);
                return a[0] == -1 ? Arrays.stream(found).sum() : found[a[0]];
            default: return sheets(name, a);
        }
    }

    private long sheets(String name, int[] a) {
        if (name.equals("sheet")) {
            askIn(a[0], 0, 3);
            ask(Arrays.asList(0, 8, 16, 32).contains(a[1]), Check.BEYOND);
            ask(a[2] >= 0, Check.SIZE);
            ask(a[2] <= 40, Check.BEYOND);
            sheets[a[0]] = a[1] == 0 ? null : new int[a[2]];
            bits[a[0]] = a[1];
            return a[1] == 0 ? 0 : a[2];
        }
        if (name.equals("copy")) {
            askIn(a[0], 0, 3);
            askIn(a[2], 0, 3);
            ask(sheets[a[0]] != null && sheets[a[2]] != null, Check.MISSING);
            ask(bits[a[0]] == bits[a[2]], Check.KIND);
            ask(a[1] >= 0 && a[3] >= 0 && a[4] >= 0, Check.BEYOND);
            ask((long) a[1] + a[4] <= sheets[a[0]].length && (long) a[3] + a[4] <= sheets[a[2]].length, Check.BEYOND);
            int[] were = sheets[a[0]].clone();
            for (int i = 0; i < a[4]; i++) {
                sheets[a[2]][a[3] + i] = were[a[1] + i];
            }
            return a[4];
        }
        askSheet(a[0]);
        int[] sheet = sheets[a[0]];
        switch (name) {
            case "write":
                askIn(a[1], 0, sheet.length - 1);
                sheet[a[1]] = bits[a[0]] == 8 ? (byte) a[2] : bits[a[0]] == 16 ? (short) a[2] : a[2];
                return 1;
            case "load":
                for (int i = 0; i < sheet.length; i++) {
                    if (!w.has(i) || !in(sheet[i], -9, 9)) {
                        return i;
                    }
                    w.people.get(i).views[w.subject] = sheet[i];
                }
                return sheet.length;
            case "judge":
                for (int i = 0; i < sheet.length; i++) {
                    if (!w.has(i) || w.people.get(i).views[w.subject] != sheet[i]) {
                        return i + 1;
                    }
                }
                return 0;
            default:
                throw new IllegalStateException(name);
        }
    }

    // ---- texts: tokens are cut by a pattern first, then read

    static final class Fault extends RuntimeException {
        private static final long serialVersionUID = 1L;
        final int place;

        Fault(int place) {
            super(null, null, false, false);
            this.place = place;
        }
    }

    private static final Pattern TOKEN = Pattern.compile("[a-z]+|[0-9]+|[;-]|[^ ]", Pattern.DOTALL);
    private List<String> tokens;
    private List<Integer> places;
    private int at;

    private long text() {
        StringBuilder all = new StringBuilder();
        for (int b : tape) {
            all.append((char) b);
        }
        tape.clear();
        tokens = new ArrayList<>();
        places = new ArrayList<>();
        Matcher m = TOKEN.matcher(all);
        while (m.find()) {
            tokens.add(m.group());
            places.add(m.start());
        }
        tokens.add("");
        places.add(all.length());
        at = 0;
        World x = w.copy();
        try {
            int items = 0;
            do {
                item(x);
                items++;
            } while (take(";"));
            if (!tokens.get(at).isEmpty()) {
                throw new Fault(places.get(at));
            }
            w = x;
            return items;
        } catch (Fault f) {
            return -1 - f.place;
        }
    }

    private boolean take(String token) {
        boolean is = tokens.get(at).equals(token);
        at += is ? 1 : 0;
        return is;
    }

    private int number(IntPredicate right) {
        String token = tokens.get(at);
        if (!token.matches("[0-9]+") || new BigInteger(token).compareTo(BigInteger.valueOf(999)) > 0
                || !right.test(Integer.parseInt(token))) {
            throw new Fault(places.get(at));
        }
        at++;
        return Integer.parseInt(token);
    }

    private void item(World x) {
        int kind = WORDS.indexOf(tokens.get(at));
        if (kind >= 0 && x.people.size() < 8) {
            at++;
            Person p = make(kind);
            x.people.add(p);
            if (take("voice")) {
                p.voice = number(v -> v <= 9);
            }
            if (take("thinks")) {
                int s = 0;
                do {
                    int sign = take("-") ? -1 : 1;
                    p.views[s] = sign * number(v -> v <= 9);
                    s++;
                } while (s < 6 && tokens.get(at).matches("[0-9]+|-"));
            }
        } else if (take("pair")) {
            int a = number(x::has);
            int b = number(v -> x.has(v) && v != a);
            x.handle = new int[] {a, b};
        } else if (take("on")) {
            x.subject = number(v -> v <= 5);
        } else {
            throw new Fault(places.get(at));
        }
    }
}
