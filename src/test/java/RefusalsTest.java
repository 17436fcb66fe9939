import java.lang.reflect.Method;
import java.lang.reflect.Modifier;
import java.util.ArrayList;
import java.util.Arrays;
import java.util.List;
import java.util.TreeSet;

/**
 * Every call with arguments at, just inside and just outside each of its edges, all of these with all: a call that the
 * document refuses answers the finding that comes first in its promise, and changes nothing but status(). So do those
 * that only tell, whatever they answer.
 */
public final class RefusalsTest {
    private static final Check check = new Check("RefusalsTest");
    private static final Edges edges = new Edges(check);
    private static final int MIN = Integer.MIN_VALUE;
    private static final int MAX = Integer.MAX_VALUE;

    /** Of the calls, the document's order; "p" is one of people, "l..h" what goes from l to h. */
    private static final String[] CALLS = {"person 0..6", "of p 0..8", "change p 0..7 -9..9", "reply p 1..18 0..1",
        "apart p p 0..5", "pair p p", "rest", "subject 0..5", "go 1..100", "now 0..5", "ahead 0..200",
        "view p 0..5 0..200", "dry", "filled 0..999999", "round", "gives p p 0..60", "best 0..60", "partner p 0..60",
        "subjectFor p p 0..60", "matched 0..30", "matchOf p 0..30", "kindFor p p 0..60", "viewFor p p 0..5 0..60",
        "voiceFor p p 0..9999 0..60", "fits 0..3 p", "thought 0..3 p", "kinds 0..3 p", "quarrels 1..20",
        "odds 0..10 0..1", "seed -1000007..-1000001", "feed 0..0 1..4", "wipe", "text", "hold 0..9 p", "as 0..9 0..6",
        "sheet 0..3 bits 0..40", "write 0..3 0..3 0..0", "copy 0..3 0..3 0..3 0..3 0..4", "load 0..3", "judge 0..3",
        "image", "undo", "tear", "count 0..7", "status -1..6"};

    /** Those that only tell: "what will be (nothing changes)", and all others that are asked what is or would be. */
    private static final List<String> TELLING = Arrays.asList("of", "reply", "apart", "now", "ahead", "view", "dry",
            "filled", "round", "gives", "best", "partner", "subjectFor", "matched", "matchOf", "kindFor", "viewFor",
            "voiceFor", "fits", "thought", "kinds", "odds", "as", "judge", "count", "status");
    private static final List<String> SEARCHING = Arrays.asList("dry", "filled", "round", "voiceFor", "thought");

    /** What a call meets: an object made anew for each of them, and what the document asks about there. */
    private static final class Ground {
        final String name;
        final Edges.Made made;
        final int people;
        final int bytes;
        final boolean image;
        final int[] bits;
        final int[] sizes;

        Ground(String name, Edges.Made made, int people, int bytes, boolean image, int[] bits, int[] sizes) {
            this.name = name;
            this.made = made;
            this.people = people;
            this.bytes = bytes;
            this.image = image;
            this.bits = bits;
            this.sizes = sizes;
        }
    }

    private static final Ground[] GROUNDS = {
        new Ground("a new object", PumpTalk::new, 0, 0, false, new int[4], new int[4]),
        new Ground("one alone", () -> Check.square("master thinks 1"), 1, 0, false, new int[4], new int[4]),
        new Ground("some", Edges::some, 4, 8, true, new int[] {8, 8, 16, 0}, new int[] {3, 4, 0, 0}),
        new Ground("full", Edges::full, 8, 118, true, new int[] {8, 16, 32, 8}, new int[] {3, 3, 3, 3})};

    private static int asked = 0;

    public static void main(String[] args) throws Exception {
        allCallsAreThere();
        for (Ground ground : GROUNDS) {
            for (String row : CALLS) {
                all(ground, row.split(" "));
            }
        }
        System.out.println("RefusalsTest: " + asked + " calls at edges");
        check.end();
    }

    private static void allCallsAreThere() {
        TreeSet<String> told = new TreeSet<>();
        for (String row : CALLS) {
            told.add(row.split(" ")[0]);
        }
        TreeSet<String> there = new TreeSet<>();
        for (Method m : PumpTalk.class.getDeclaredMethods()) {
            if (Modifier.isPublic(m.getModifiers())) {
                there.add(m.getName());
            }
        }
        check.due("all calls of the face are asked", told.equals(there) ? 1 : 0, 1);
    }

    private static void all(Ground ground, String[] row) throws Exception {
        Class<?>[] types = new Class<?>[row.length - 1];
        Arrays.fill(types, int.class);
        Method m = PumpTalk.class.getMethod(row[0], types);
        int[][] values = new int[types.length][];
        for (int k = 0; k < types.length; k++) {
            values[k] = values(ground, row, k);
        }
        each(ground, m, values, new int[types.length], 0);
    }

    private static int[] values(Ground ground, String[] row, int k) {
        TreeSet<Integer> values = new TreeSet<>(Arrays.asList(MIN, MAX));
        String edge = row[k + 1];
        if (row[0].equals("change") && k == 2) {
            values.addAll(Arrays.asList(-10, -9, -1, 0, 6, 7, 9, 10));
        } else if (row[0].equals("hold") && k == 1) {
            values.addAll(Arrays.asList(-2, -1, 0, ground.people - 1, ground.people));
        } else if (edge.equals("bits")) {
            values.addAll(Arrays.asList(-8, 0, 1, 7, 8, 9, 15, 16, 17, 24, 31, 32, 33, 64));
        } else if (edge.equals("p")) {
            values.addAll(Arrays.asList(-1, 0, 1, ground.people - 1, ground.people, 8));
        } else {
            String[] ends = edge.split("\\.\\.");
            int least = Integer.parseInt(ends[0]);
            int most = Integer.parseInt(ends[1]);
            values.addAll(Arrays.asList(least - 1, least, most, most + 1));
            if (most <= 4) {
                for (int v = least; v <= most; v++) {
                    values.add(v);
                }
            }
        }
        return values.stream().mapToInt(v -> v).toArray();
    }

    private static void each(Ground ground, Method m, int[][] values, int[] a, int k) throws Exception {
        if (k == values.length) {
            one(ground, m, a);
            return;
        }
        for (int v : values[k]) {
            a[k] = v;
            each(ground, m, values, a, k + 1);
        }
    }

    private static void one(Ground ground, Method m, int[] a) throws Exception {
        asked++;
        String name = m.getName();
        String call = ground.name + ": " + name + Arrays.toString(a);
        int refusal = refusal(ground, name, a);
        PumpTalk x = ground.made.make();
        Object[] given = Arrays.stream(a).boxed().toArray();
        long got = ((Number) m.invoke(x, given)).longValue();
        boolean isFinding = got < -1000000 && !name.equals("seed");
        if (refusal == 0 && isFinding && SEARCHING.contains(name)) {
            refusal = Check.NONE;
        }
        if (refusal != 0 || isFinding) {
            check.due(call, got, refusal);
            PumpTalk twin = ground.made.make();
            edges.countedOnce(call, x, twin, refusal);
            edges.alike(call, x, twin);
        } else if (TELLING.contains(name)) {
            PumpTalk twin = ground.made.make();
            check.due(call + ": findings", x.status(-1), twin.status(-1));
            edges.alike(call, x, twin);
        }
    }

    private static boolean in(int v, int least, int most) {
        return v >= least && v <= most;
    }

    private static int beyondBut(boolean right) {
        return right ? 0 : Check.BEYOND;
    }

    /** The finding that comes first in the promise, or 0: what is searched for and isn't there is not among these. */
    private static int refusal(Ground g, String name, int[] a) {
        switch (name) {
            case "person":
                return !in(a[0], 0, 6) ? Check.BEYOND : g.people == 8 ? Check.FULL : 0;
            case "of":
                return beyondBut(isOne(g, a[0]) && in(a[1], 0, 8));
            case "change":
                return beyondBut(isOne(g, a[0]) && (a[1] == 0 && in(a[2], 0, 6) || a[1] == 1 && in(a[2], 0, 9)
                        || in(a[1], 2, 7) && in(a[2], -9, 9)));
            case "reply":
                return beyondBut(isOne(g, a[0]) && in(a[1], 1, 18) && in(a[2], 0, 1));
            case "apart":
                return beyondBut(isOne(g, a[0]) && isOne(g, a[1]) && in(a[2], 0, 5));
            case "pair":
                return beyondBut(areTwo(g, a));
            case "subject":
            case "now":
                return beyondBut(in(a[0], 0, 5));
            case "go":
                return beyondBut(in(a[0], 1, 100));
            case "ahead":
                return beyondBut(in(a[0], 0, 200));
            case "view":
                return beyondBut(isOne(g, a[0]) && in(a[1], 0, 5) && in(a[2], 0, 200));
            case "filled":
                return beyondBut(in(a[0], 0, 999999));
            default:
                return refusalOfPairs(g, name, a);
        }
    }

    private static boolean isOne(Ground g, int person) {
        return in(person, 0, g.people - 1);
    }

    private static boolean areTwo(Ground g, int[] a) {
        return isOne(g, a[0]) && isOne(g, a[1]) && a[0] != a[1];
    }

    private static int refusalOfPairs(Ground g, String name, int[] a) {
        switch (name) {
            case "gives":
            case "subjectFor":
            case "kindFor":
                return beyondBut(areTwo(g, a) && in(a[2], 0, 60));
            case "best":
                return !in(a[0], 0, 60) ? Check.BEYOND : g.people < 2 ? Check.NONE : 0;
            case "partner":
                return !isOne(g, a[0]) || !in(a[1], 0, 60) ? Check.BEYOND : g.people < 2 ? Check.NONE : 0;
            case "matched":
                return beyondBut(in(a[0], 0, 30));
            case "matchOf":
                return beyondBut(isOne(g, a[0]) && in(a[1], 0, 30));
            case "viewFor":
                return beyondBut(areTwo(g, a) && in(a[2], 0, 5) && in(a[3], 0, 60));
            case "voiceFor":
                return beyondBut(areTwo(g, a) && in(a[2], 0, 9999) && in(a[3], 0, 60));
            case "quarrels":
                return beyondBut(in(a[0], 1, 20));
            case "odds":
                return beyondBut(in(a[0], 0, 10) && in(a[1], 0, 1));
            case "feed":
                return !in(a[1], 1, 4) ? Check.BEYOND : g.bytes + a[1] > 120 ? Check.FULL : 0;
            case "hold":
                return beyondBut(in(a[0], 0, 9) && (a[1] == -1 || isOne(g, a[1])));
            case "as":
                return refusalOfAs(g, a);
            case "undo":
                return g.image ? 0 : Check.NONE;
            case "count":
                return beyondBut(in(a[0], 0, 7));
            case "status":
                return beyondBut(in(a[0], -1, 6));
            default:
                return refusalOfSheets(g, name, a);
        }
    }

    /** Bits of the kinds as which one of each kind can be told. */
    private static final int[] UNDER = {1, 1 + 2, 1 + 4, 1 + 4 + 8, 1 + 4 + 8 + 16, 1 + 32, 1 + 2 + 64};

    private static int refusalOfAs(Ground g, int[] a) {
        if (!in(a[0], 0, 9) || !in(a[1], 0, 6)) {
            return Check.BEYOND;
        }
        PumpTalk x = g.made.make();
        int person = x.as(a[0], 0);
        if (person < 0) {
            return Check.MISSING;
        }
        return (UNDER[x.of(person, 0)] >> a[1] & 1) == 1 ? 0 : Check.KIND;
    }

    private static int refusalOfSheets(Ground g, String name, int[] a) {
        List<String> withSheet = Arrays.asList("fits", "thought", "kinds", "write", "load", "judge");
        if (withSheet.contains(name)) {
            if (!in(a[0], 0, 3)) {
                return Check.BEYOND;
            }
            if (g.bits[a[0]] == 0) {
                return Check.MISSING;
            }
            if (name.equals("write")) {
                return beyondBut(in(a[1], 0, g.sizes[a[0]] - 1));
            }
            return a.length == 2 ? beyondBut(isOne(g, a[1])) : 0;
        }
        if (name.equals("sheet")) {
            if (!in(a[0], 0, 3) || !new ArrayList<>(Arrays.asList(0, 8, 16, 32)).contains(a[1])) {
                return Check.BEYOND;
            }
            return a[2] < 0 ? Check.SIZE : a[2] > 40 ? Check.BEYOND : 0;
        }
        return name.equals("copy") ? refusalOfCopy(g, a) : 0;
    }

    private static int refusalOfCopy(Ground g, int[] a) {
        if (!in(a[0], 0, 3) || !in(a[2], 0, 3)) {
            return Check.BEYOND;
        }
        if (g.bits[a[0]] == 0 || g.bits[a[2]] == 0) {
            return Check.MISSING;
        }
        if (g.bits[a[0]] != g.bits[a[2]]) {
            return Check.KIND;
        }
        boolean has = a[1] >= 0 && a[3] >= 0 && a[4] >= 0 && (long) a[1] + a[4] <= g.sizes[a[0]]
                && (long) a[3] + a[4] <= g.sizes[a[2]];
        return beyondBut(has);
    }
}
