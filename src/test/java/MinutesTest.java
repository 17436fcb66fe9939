/** Promises 10 to 16: minutes, and what will be. */
public final class MinutesTest {
    private static final Check check = new Check("MinutesTest");

    public static void main(String[] args) {
        agreeing();
        swapping();
        held();
        both();
        now();
        ahead();
        dry();
        filled();
        round();
        mostWater();
        lastMinute();
        check.end();
    }

    private static void agreeing() {
        PumpTalk x = Check.square("wed;wed;pair 0 1;on 4");
        check.due("no water", x.go(1), 0);
        check.due("the next subject", x.now(2), 5);
        check.due("no water", x.go(1), 0);
        check.due("behind 5 comes 0", x.now(2), 0);
        check.due("minutes", x.now(0), 2);
        x.rest();
        check.due("nobody", x.go(3), 0);
        check.due("the subject stays", x.now(2), 0);
        check.due("minutes go on", x.now(0), 5);
        check.due("go(0)", x.go(0), Check.BEYOND);
        check.due("go(-1)", x.go(-1), Check.BEYOND);
        check.due("go(101)", x.go(101), Check.BEYOND);
        check.due("minutes", x.now(0), 5);
        check.due("go(100)", x.go(100), 0);
        check.due("minutes", x.now(0), 105);
    }

    /** Two persons 1 apart change places, since both move at once. */
    private static void swapping() {
        PumpTalk x = Check.square("person thinks 4;person voice 0 thinks 5;pair 0 1");
        check.due("water", x.go(1), 3);
        check.due("moved", x.of(0, 2), 5);
        check.due("moved", x.of(1, 2), 4);
        check.due("water", x.go(100), 303);
        check.due("subject", x.now(2), 0);
    }

    private static void held() {
        PumpTalk x = Check.square("lawyer thinks 8;lawyer voice 9 thinks -9;pair 0 1");
        check.due("water", x.go(1), 3 + 9 + 17 + 17);
        check.due("moved away", x.of(0, 2), 9);
        check.due("held", x.of(1, 2), -9);
        check.due("water", x.go(1), 46 + 3 + 9 + 18 + 18);
        check.due("held", x.of(0, 2), 9);
        // A wed one goes over to the other's view while the other one, wed, too, comes to its own.
        x = Check.square("wed thinks 9;wed thinks -9;pair 0 1");
        check.due("water", x.go(1), 26);
        check.due("over", x.of(0, 2), -9);
        check.due("over", x.of(1, 2), 9);
        check.due("water", x.go(6), 26 + 6 * 6);
        check.due("water at minute 7", x.go(1), 62 + 26);
    }

    /** What both were counts for both: g at the begin, and the minute. */
    private static void both() {
        PumpTalk x = Check.square("trinity voice 2 thinks 3;friend voice 5 thinks -4;pair 1 0");
        // g 7, minute 0: twice (2 + 7 - 1) and (5 + 2) / 2; the trinity one stays, the friend moves by 3.
        check.due("water", x.go(1), 16 + 3);
        check.due("trinity", x.of(0, 2), 3);
        check.due("friend", x.of(1, 2), -1);
        // g 4, minute 1: twice (2 + 4 - 1) and 3; moves 1 and 2.
        check.due("water", x.go(1), 19 + 10 + 3);
        check.due("trinity", x.of(0, 2), 2);
        check.due("friend", x.of(1, 2), 1);
    }

    private static void now() {
        PumpTalk x = Check.square("wed voice 1 thinks 1 0 2 0 3 0;deaf voice 9;wed;pair 1 0");
        check.due("now(4)", x.now(4), 1 + 4 + 16);
        check.due("now(5)", x.now(5), 13);
        check.due("now(6)", x.now(6), Check.BEYOND);
        check.due("now(-1)", x.now(-1), Check.BEYOND);
        check.due("now(3)", x.now(3), 8);
        x.rest();
        check.due("now(4), nobody", x.now(4), 0);
    }

    private static void ahead() {
        PumpTalk x = Check.square("deaf thinks 1;deaf;wed;pair 0 1");
        check.due("ahead(0)", x.ahead(0), 0);
        check.due("ahead(200)", x.ahead(200), 2000);
        check.due("ahead(1), from now on", x.ahead(1), 10);
        check.due("ahead(201)", x.ahead(201), Check.BEYOND);
        check.due("ahead(-1)", x.ahead(-1), Check.BEYOND);
        check.due("nothing changes", x.now(0) + x.now(1), 0);
        x.pair(2, 0);
        check.due("view of the wed one", x.view(2, 0, 0), 0);
        check.due("view of the wed one", x.view(2, 0, 1), 1);
        check.due("view of the wed one", x.view(2, 0, 200), 1);
        check.due("no such one", x.view(3, 0, 0), Check.BEYOND);
        check.due("no such one", x.view(-1, 0, 0), Check.BEYOND);
        check.due("no such subject", x.view(0, 6, 0), Check.BEYOND);
        check.due("no such subject", x.view(0, -1, 0), Check.BEYOND);
        check.due("too far", x.view(0, 0, 201), Check.BEYOND);
        check.due("too far", x.view(0, 0, -1), Check.BEYOND);
        check.due("nothing changes", x.of(2, 2), 0);
        x.change(0, 2, 4);
        check.due("as it is now", x.view(2, 0, 1), 4);
    }

    private static void dry() {
        PumpTalk x = Check.square("wed thinks 3 0 0 0 0 -2;deaf;deaf;pair 0 1");
        // Minute 0 settles subject 0; five minutes lead to subject 5, a seventh settles that.
        check.due("dry", x.dry(), 7);
        x.go(7);
        check.due("dry", x.dry(), 0);
        x.change(1, 4, 5);
        x.pair(1, 2);
        check.due("never", x.dry(), Check.NONE);
        x.rest();
        check.due("nobody", x.dry(), 0);
        x = Check.square("person thinks 9 9 9 9 9 9;deaf thinks -9 -9 -9 -9 -9 -9;pair 0 1");
        check.due("six times 18, and five between", x.dry(), 6 * 18 + 5);
    }

    private static void filled() {
        PumpTalk x = Check.square("deaf voice 9 thinks 1;deaf voice 9;pair 0 1");
        check.due("filled(0)", x.filled(0), 0);
        check.due("filled(1)", x.filled(1), 1);
        check.due("filled(22)", x.filled(22), 1);
        check.due("filled(23)", x.filled(23), 2);
        check.due("filled(6600)", x.filled(6600), 300);
        check.due("filled(6601)", x.filled(6601), Check.NONE);
        check.due("filled(-1)", x.filled(-1), Check.BEYOND);
        check.due("filled(999999)", x.filled(999999), Check.NONE);
        check.due("filled(1000000)", x.filled(1000000), Check.BEYOND);
        x.go(10);
        check.due("filled(220)", x.filled(220), 0);
    }

    private static void round() {
        PumpTalk x = Check.square("person thinks 4;person thinks 5;deaf;pair 0 1");
        check.due("swapped twice", x.round(), 2);
        x.pair(0, 2);
        check.due("never", x.round(), Check.NONE);
        x.rest();
        check.due("nobody", x.round(), 1);
        x = Check.square("wed;wed;pair 0 1;on 2");
        check.due("round the subjects", x.round(), 6);
        x = Check.square("deaf thinks 1;deaf;pair 0 1");
        check.due("deaf ones", x.round(), 1);
    }

    /** Lawyers at 18 apart give 54 a minute for good, so that the pump fills up. */
    private static void mostWater() {
        PumpTalk x = Check.square("lawyer voice 9 thinks 9;lawyer voice 9 thinks -9;pair 0 1");
        for (int i = 1; i <= 185; i++) {
            check.due("water", x.go(100), 5400 * i);
        }
        check.due("behind 18519 minutes", x.filled(999999), 19);
        check.due("at most", x.ahead(200), 999999);
        check.due("water", x.go(18), 999972);
        check.due("at most", x.go(1), 999999);
        check.due("at most", x.go(100), 999999);
        check.due("counted all the same", x.gives(0, 1, 60), 3240);
        check.due("counted all the same", x.matched(30), 1620);
        x.sheet(0, 32, 3);
        for (int i = 0; i < 3; i++) {
            x.write(0, i, 999999);
        }
        check.due("full stays full", x.fits(0, 0), 19);
    }

    /** No 512 calls lead there, so nothing is promised of it; the class keeps to the words all the same. */
    private static void lastMinute() {
        PumpTalk x = Check.square("master thinks 5;deaf;wed thinks 1");
        for (int i = 0; i < 999; i++) {
            x.go(100);
        }
        check.due("99900", x.now(0), 99900);
        check.due("above 99999", x.go(100), -1000005);
        check.due("99999", x.go(99), 0);
        check.due("above 99999", x.go(1), -1000005);
        check.due("above 99999", x.quarrels(1), -1000005);
        check.due("beyond before state", x.go(0), Check.BEYOND);
        check.due("beyond before state", x.quarrels(21), Check.BEYOND);
        check.due("three findings of state", x.status(4), 3);
        check.due("no draws", x.count(6), 1);
        x.pair(0, 1);
        // The minute stays odd, so that the master comes nearer each time.
        check.due("view ahead", x.view(0, 0, 5), 0);
        check.due("dry", x.dry(), 5);
        check.due("undone", x.image() + x.undo(), 100000);
        PumpTalk y = new PumpTalk();
        for (int i = 0; i < 999; i++) {
            y.go(100);
        }
        y.go(79);
        check.due("99979 and 20", y.quarrels(20), 0);
        check.due("99999", y.now(0), 99999);
    }
}
