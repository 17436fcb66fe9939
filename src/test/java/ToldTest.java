/** Promises 26 to 31: views and kinds that fit told water, quarrels by draws. */
public final class ToldTest {
    private static final Check check = new Check("ToldTest");

    public static void main(String[] args) {
        findings();
        views();
        kinds();
        quarrels();
        odds();
        seed();
        check.end();
    }

    private static void findings() {
        PumpTalk x = new PumpTalk();
        x.sheet(1, 8, 0);
        for (int s = -1; s <= 4; s++) {
            int due = s < 0 || s > 3 || s == 1 ? Check.BEYOND : Check.MISSING;
            check.due("fits(" + s + ", 0)", x.fits(s, 0), due);
            check.due("thought(" + s + ", 0)", x.thought(s, 0), due);
            check.due("kinds(" + s + ", 0)", x.kinds(s, 0), due);
        }
        x.person(0);
        check.due("an empty sheet", x.fits(1, 0), 19);
        check.due("an empty sheet", x.thought(1, 0), -9);
        check.due("an empty sheet", x.kinds(1, 0), 127);
        check.due("no such one", x.fits(1, -1), Check.BEYOND);
        check.due("no such one", x.fits(1, 1), Check.BEYOND);
        check.due("no such one", x.thought(1, 1), Check.BEYOND);
        check.due("no such one", x.kinds(1, -1), Check.BEYOND);
    }

    private static void tell(PumpTalk x, int bits, int... water) {
        x.sheet(0, bits, water.length);
        for (int i = 0; i < water.length; i++) {
            x.write(0, i, water[i]);
        }
    }

    private static void views() {
        PumpTalk x = Check.square("lawyer thinks 5 5;deaf thinks 5 2;wed;pair 0 1;on 1");
        tell(x, 16, 0, 3 + 5 + 4);
        check.due("4 from 2", x.fits(0, 0), 2);
        check.due("4 from 2", x.thought(0, 0), -2);
        check.due("4 from 5", x.fits(0, 1), 2);
        check.due("4 from 5", x.thought(0, 1), 1);
        check.due("not at the handle", x.fits(0, 2), 0);
        check.due("not at the handle", x.thought(0, 2), Check.NONE);
        // Behind a second minute the lawyer is further off by one, at the edge not so.
        tell(x, 8, -1, -1, 3 + 5 + 7 + 3 + 5 + 8);
        check.due("7 from 2", x.thought(0, 0), -5);
        check.due("7 from 2, at the edge", x.fits(0, 0), 1);
        tell(x, 8, 255, 8 + 7, 8 + 7 + 8 + 7);
        check.due("7 from 2, at the edge", x.thought(0, 0), 9);
        tell(x, 32, 1);
        check.due("not the water now", x.fits(0, 0), 0);
        tell(x, 32, 0, 0);
        check.due("who agree", x.thought(0, 0), 2);
        check.due("who agree", x.fits(0, 0), 1);
        tell(x, 32, -2);
        check.due("never", x.fits(0, 0), 0);
        tell(x, 32, -1, -1, -1);
        check.due("any", x.fits(0, 2), 19);
        check.due("nothing changes", x.of(0, 3) + x.now(0) + x.now(1), 5);
        x.rest();
        tell(x, 32, 0, 0, 0);
        check.due("nobody", x.fits(0, 0), 19);
    }

    private static void kinds() {
        // At minute 0, g 2, voice 3: 3, 5, 5, 4, 8, 13, 2, and 5 of the deaf one.
        PumpTalk x = Check.square("person thinks 2;deaf;pair 0 1");
        int[] strokes = {3, 5, 5, 4, 8, 13, 2};
        int[] sets = {1, 6, 6, 8, 16, 32, 64};
        for (int kind = 0; kind < 7; kind++) {
            tell(x, 8, 0, strokes[kind] + 5);
            check.due("kinds", x.kinds(0, 0), sets[kind]);
        }
        // The deaf one stays 2 apart, the lawyer goes off to 3.
        tell(x, 8, -1, 10, 20);
        check.due("the deaf one", x.kinds(0, 0), 2);
        tell(x, 8, -1, 10, 21);
        check.due("the lawyer", x.kinds(0, 0), 4);
        tell(x, 8, -1, 11);
        check.due("none", x.kinds(0, 0), 0);
        check.due("the kind stays", x.of(0, 0), 0);
    }

    private static int next(int z) {
        return z * 1103515245 + 12345;
    }

    private static void quarrels() {
        PumpTalk x = Check.square("deaf thinks 1;deaf;deaf thinks -1;deaf;deaf thinks 3;pair 1 3");
        check.due("quarrels(0)", x.quarrels(0), Check.BEYOND);
        check.due("quarrels(21)", x.quarrels(21), Check.BEYOND);
        int z = 1;
        int handle = 8 + 3;
        int[] views = {1, 0, -1, 0, 3};
        int subject = 0;
        int water = 0;
        for (int i = 0; i < 60; i++) {
            z = next(z);
            int a = (z >>> 8) % 8;
            z = next(z);
            int b = (z >>> 8) % 8;
            if (a < 5 && b < 5 && a != b) {
                handle = 8 * a + b;
            }
            if (subject == 0 && views[handle / 8] != views[handle % 8]) {
                water += 10;
            } else {
                subject = (subject + 1) % 6;
            }
            check.due("water", x.quarrels(1), water);
            check.due("handle", x.now(3), handle);
            check.due("z", x.count(6), z);
            check.due("minute", x.now(0), i + 1);
        }
        x.seed(1);
        int before = x.now(0);
        x.quarrels(20);
        check.due("20 minutes", x.now(0), before + 20);
        int drawn = 1;
        for (int i = 0; i < 40; i++) {
            drawn = next(drawn);
        }
        check.due("40 draws", x.count(6), drawn);
    }

    private static void odds() {
        PumpTalk x = new PumpTalk();
        long[] above = {0, 0, 1, 3, 3, 5, 15, 21, 7};
        long[] below = {1, 1, 32, 32, 16, 16, 32, 32, 8};
        for (int people = 0; people <= 8; people++) {
            long a = 1;
            long b = 1;
            for (int n = 0; n <= 10; n++) {
                check.due("odds above, " + people + " people, " + n, x.odds(n, 0), a);
                check.due("odds below, " + people + " people, " + n, x.odds(n, 1), b);
                a *= above[people];
                b *= below[people];
            }
            x.person(0);
        }
        check.due("odds(-1, 0)", x.odds(-1, 0), Check.BEYOND);
        check.due("odds(11, 0)", x.odds(11, 0), Check.BEYOND);
        check.due("odds(0, 2)", x.odds(0, 2), Check.BEYOND);
        check.due("odds(0, -1)", x.odds(0, -1), Check.BEYOND);
        // The 9th one was refused, too.
        check.due("findings", x.status(-1), 5);
    }

    private static void seed() {
        PumpTalk x = new PumpTalk();
        check.due("seed", x.seed(Check.BEYOND), 1);
        check.due("seed", x.seed(Integer.MIN_VALUE), Check.BEYOND);
        check.due("seed", x.count(6), Integer.MIN_VALUE);
        check.due("no finding", x.status(-1), 0);
    }
}
