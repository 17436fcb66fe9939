import java.util.List;

/** What the tests of edges share: calls that are refused, and calls that only tell, leave all as it was. */
final class Edges {
    interface Made {
        PumpTalk make();
    }

    interface Call {
        long on(PumpTalk x);
    }

    private final Check check;

    Edges(Check check) {
        this.check = check;
    }

    /**
     * Two objects are made alike and one of them is asked: it answers the finding, and only status()
     * tells the two apart.
     */
    void refused(String name, Made made, Call call, int finding) {
        PumpTalk asked = made.make();
        PumpTalk twin = made.make();
        check.due(name, call.on(asked), finding);
        countedOnce(name, asked, twin, finding);
        alike(name, asked, twin);
    }

    /** Two objects are made alike and one of them is asked: it answers what is due, and nothing tells the two apart. */
    void told(String name, Made made, Call call, long due) {
        PumpTalk asked = made.make();
        PumpTalk twin = made.make();
        check.due(name, call.on(asked), due);
        check.due(name + ": findings", asked.status(-1), twin.status(-1));
        alike(name, asked, twin);
    }

    void countedOnce(String name, PumpTalk asked, PumpTalk twin, int finding) {
        check.due(name + ": all findings", asked.status(-1), twin.status(-1) + 1);
        for (int which = 0; which <= 6; which++) {
            int more = Check.BEYOND - which == finding ? 1 : 0;
            check.due(name + ": findings of sort " + which, asked.status(which), twin.status(which) + more);
        }
    }

    void alike(String name, PumpTalk asked, PumpTalk twin) {
        List<String> a = Look.at(asked);
        List<String> b = Look.at(twin);
        for (int i = 0; i < Math.min(a.size(), b.size()); i++) {
            if (!a.get(i).equals(b.get(i))) {
                System.out.println(name + " changed something: " + a.get(i) + ", of its twin " + b.get(i));
                break;
            }
        }
        check.due(name + " changes nothing", a.equals(b) ? 0 : 1, 0);
    }

    /** Eight people, all spots held, four sheets, a tape of 118 bytes, an image: as full as can be looked at. */
    static PumpTalk full() {
        PumpTalk x = Check.square("lawyer voice 7 thinks 4 -5;friend thinks -2 3;trinity voice 0;wed thinks 0 9;"
                + "deaf;master;person;wed");
        for (int spot = 0; spot <= 9; spot++) {
            x.hold(spot, spot % 8);
        }
        x.pair(2, 1);
        x.image();
        x.subject(1);
        x.pair(0, 1);
        x.seed(-77);
        x.go(3);
        int[] bits = {8, 16, 32, 8};
        for (int s = 0; s <= 3; s++) {
            x.sheet(s, bits[s], 3);
            for (int i = 0; i < 3; i++) {
                x.write(s, i, s + 2 * i - 4);
            }
        }
        x.feed(0x6f6e2034, 4);
        for (int i = 0; i < 28; i++) {
            x.feed(0x20202020, 4);
        }
        x.feed(0x2020, 2);
        return x;
    }

    /** Four people, some spots, sheets of unlike sizes and one that is missing, some bytes, an image. */
    static PumpTalk some() {
        PumpTalk x = Check.square("lawyer voice 7 thinks 4 -5;friend thinks -2 3;trinity voice 0;pair 2 0;on 1");
        x.hold(2, 1);
        x.hold(9, 0);
        x.seed(-77);
        x.go(5);
        x.image();
        x.person(5);
        x.change(0, 2, -9);
        x.hold(0, 3);
        x.sheet(0, 8, 3);
        x.sheet(1, 8, 4);
        x.sheet(2, 16, 0);
        for (int i = 0; i < 3; i++) {
            x.write(0, i, 2 + i);
            x.write(1, i + 1, -2 - i);
        }
        Check.feed(x, "wed;on 3");
        return x;
    }

    /** Three people and a minute that 512 calls can't come to: what a call promises there holds all the same. */
    static PumpTalk late(int minute) {
        PumpTalk x = Check.square("master thinks 5;deaf;wed thinks 1");
        for (int i = 0; i < minute / 100; i++) {
            x.go(100);
        }
        if (minute % 100 != 0) {
            x.go(minute % 100);
        }
        x.pair(0, 1);
        x.image();
        return x;
    }
}
