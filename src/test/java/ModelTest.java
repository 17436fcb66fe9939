import java.lang.reflect.Method;
import java.lang.reflect.Modifier;
import java.util.ArrayList;
import java.util.Arrays;
import java.util.Comparator;
import java.util.List;
import java.util.Random;

/** Many drawn runs of calls, each call asked of PumpTalk and of Model. The draws are the same each time. */
public final class ModelTest {
    private static final int RUNS = 400;
    private static final int CALLS = 512;
    private static final int[] ODD = {Integer.MIN_VALUE, -1000001, -11, -2, -1, 41, 61, 101, 201, 999999, 1000000,
        Integer.MAX_VALUE};
    private static final String[] PARTS = {"person", "deaf", "lawyer", "master", "trinity", "wed", "friend", "voice",
        "thinks", "pair", "on", ";", ";", ";", "-", "0", "1", "2", "3", "4", "5", "6", "7", "9", "10", "007", "1000",
        " ", " ", " ", "x", "A", "\t", "" + (char) 233};

    private static final Check check = new Check("ModelTest");

    public static void main(String[] args) throws Exception {
        List<Method> methods = new ArrayList<>();
        for (Method m : PumpTalk.class.getDeclaredMethods()) {
            if (Modifier.isPublic(m.getModifiers())) {
                methods.add(m);
            }
        }
        methods.sort(Comparator.comparing(Method::getName));
        for (int run = 0; run < RUNS; run++) {
            go(methods, new Random(run));
        }
        check.end();
    }

    private static void go(List<Method> methods, Random draws) throws Exception {
        PumpTalk x = new PumpTalk();
        Model model = new Model();
        StringBuilder before = new StringBuilder();
        for (int i = 0; i < CALLS; i++) {
            Method m = methods.get(draws.nextInt(methods.size()));
            if (i < 12 && draws.nextInt(3) != 0) {
                m = PumpTalk.class.getMethod("person", int.class);
            }
            if (m.getName().equals("text") && draws.nextInt(4) != 0) {
                i += feedText(x, model, draws);
            }
            if (i >= CALLS) {
                return;
            }
            Object[] given = new Object[m.getParameterCount()];
            int[] a = new int[given.length];
            for (int k = 0; k < a.length; k++) {
                a[k] = argument(m.getName(), k, model, draws);
                given[k] = a[k];
            }
            String call = m.getName() + Arrays.toString(a);
            long got = ((Number) m.invoke(x, given)).longValue();
            long due = model.call(m.getName(), a);
            check.due(call, got, due);
            before.append(call).append(' ');
            if (got != due) {
                System.out.println("  behind " + before);
                return;
            }
        }
    }

    private static int feedText(PumpTalk x, Model model, Random draws) {
        StringBuilder text = new StringBuilder();
        int items = 1 + draws.nextInt(4);
        for (int i = 0; i < items; i++) {
            text.append(i == 0 ? "" : ";").append(item(draws));
        }
        if (draws.nextInt(4) == 0) {
            text.insert(draws.nextInt(text.length() + 1), PARTS[draws.nextInt(PARTS.length)]);
        }
        if (draws.nextInt(5) == 0) {
            text.setLength(draws.nextInt(text.length() + 1));
        }
        for (int i = 0; i < text.length(); i++) {
            int[] a = {text.charAt(i), 1};
            check.due("feed", x.feed(a[0], a[1]), model.call("feed", a));
        }
        return text.length();
    }

    private static String item(Random draws) {
        int sort = draws.nextInt(4);
        if (sort == 0) {
            return "on " + draws.nextInt(7);
        }
        if (sort == 1) {
            return "pair " + draws.nextInt(5) + " " + draws.nextInt(5);
        }
        StringBuilder item = new StringBuilder(Model.WORDS.get(draws.nextInt(7)));
        if (draws.nextBoolean()) {
            item.append(" voice ").append(draws.nextInt(10));
        }
        if (draws.nextBoolean()) {
            item.append(" thinks");
            int views = draws.nextInt(8);
            for (int i = 0; i < views; i++) {
                item.append(' ').append(draws.nextInt(20) - 9);
            }
        }
        return item.toString();
    }

    /** Mostly what the call takes, so that it does something; now and then at or beyond an edge. */
    private static int argument(String name, int k, Model model, Random draws) {
        if (draws.nextInt(60) == 0) {
            return ODD[draws.nextInt(ODD.length)];
        }
        String wants = wants(name, k);
        switch (wants) {
            case "person": return draws.nextInt(Math.max(1, model.w.people.size() + (draws.nextInt(20) == 0 ? 1 : 0)));
            case "kind": return draws.nextInt(7);
            case "subject": return draws.nextInt(6);
            case "sheet": return draws.nextInt(3);
            case "spot": return draws.nextInt(10);
            case "bits": return 8 * draws.nextInt(5);
            case "size": return draws.nextInt(8) == 0 ? draws.nextInt(44) - 1 : draws.nextInt(9);
            case "place": return draws.nextInt(6);
            case "water": return draws.nextInt(3) == 0 ? draws.nextInt(60) - 10 : water(model, draws);
            case "view": return draws.nextInt(20) - 9;
            case "any": return draws.nextInt();
            case "what": return draws.nextInt(9);
            default: return draws.nextInt(Integer.parseInt(wants) + 2);
        }
    }

    /** What will be there soon, so that told water now and then fits. */
    private static int water(Model model, Random draws) {
        return draws.nextBoolean() ? -1 : model.w.after(draws.nextInt(5)).water;
    }

    private static String wants(String name, int k) {
        switch (name) {
            case "person": return "kind";
            case "of": return "person what".split(" ")[k];
            case "change": return "person what view".split(" ")[k];
            case "reply": return "person 18 1".split(" ")[k];
            case "apart": return "person person subject".split(" ")[k];
            case "pair": return "person";
            case "subject": return "subject";
            case "go": return "8";
            case "now": return "5";
            case "ahead": return "200";
            case "view": return "person subject 200".split(" ")[k];
            case "filled": return "2000";
            case "gives": return "person person 60".split(" ")[k];
            case "best": return "60";
            case "partner": return "person 60".split(" ")[k];
            case "subjectFor": return "person person 60".split(" ")[k];
            case "matched": return "30";
            case "matchOf": return "person 30".split(" ")[k];
            case "kindFor": return "person person 60".split(" ")[k];
            case "viewFor": return "person person subject 60".split(" ")[k];
            case "voiceFor": return "person person 600 60".split(" ")[k];
            case "fits":
            case "thought":
            case "kinds": return "sheet person".split(" ")[k];
            case "quarrels": return "8";
            case "odds": return "10 1".split(" ")[k];
            case "seed": return "any";
            case "feed": return "any 4".split(" ")[k];
            case "hold": return "spot person".split(" ")[k];
            case "as": return "spot kind".split(" ")[k];
            case "sheet": return "sheet bits size".split(" ")[k];
            case "write": return "sheet place water".split(" ")[k];
            case "copy": return "sheet place sheet place place".split(" ")[k];
            case "load":
            case "judge": return "sheet";
            case "count": return "7";
            case "status": return "6";
            default: throw new IllegalStateException(name);
        }
    }
}
