/** The edges that the document names under 'Terms', each sentence with a test of its own. */
public final class EdgesOfTermsTest {
    private static final Check check = new Check("EdgesOfTermsTest");

    public static void main(String[] args) {
        findingsAreBelow();
        toldZIsNoFinding();
        aFindingChangesNothing();
        quotientsAreCut();
        leastOfSeveral();
        behindFiveComesZero();
        waterAtMost();
        peopleAtMost();
        viewsAreHeldAbove();
        viewsAreHeldBelow();
        halfOfG();
        aboveFive();
        evenMinutes();
        lessOneButNotBelowNone();
        multiplesOfSeven();
        nobodyAtTheHandle();
        noneApart();
        bothAtOnce();
        minuteAtMost();
        drawsWrapAround();
        signOfNumbers();
        check.end();
    }

    /** FINDINGS are answers below -1000000: LOW is -1000001, and the others follow below it. */
    private static void findingsAreBelow() {
        PumpTalk x = new PumpTalk();
        check.due("BEYOND", x.person(7), -1000001);
        for (int i = 0; i < 8; i++) {
            x.person(0);
        }
        check.due("FULL", x.person(0), -1000002);
        x.hold(0, 0);
        check.due("KIND", x.as(0, 1), -1000003);
        check.due("NONE", x.undo(), -1000004);
        check.due("MISSING", x.load(0), -1000006);
        check.due("SIZE", x.sheet(0, 8, -1), -1000007);
        check.due("BEYOND in longs, too", x.odds(11, 0), -1000001L);
        int[] due = {2, 1, 1, 1, 0, 1, 1};
        for (int which = 0; which < due.length; which++) {
            check.due("status(" + which + ")", x.status(which), due[which]);
        }
    }

    /** What seed() and count(6) tell, z, may be any int: that is no finding. */
    private static void toldZIsNoFinding() {
        PumpTalk x = new PumpTalk();
        int was = 1;
        int[] zs = {-1000001, -1000002, -1000003, -1000004, -1000005, -1000006, -1000007, Integer.MIN_VALUE, -1, 0,
            Integer.MAX_VALUE};
        for (int z : zs) {
            check.due("seed", x.seed(z), was);
            check.due("count(6)", x.count(6), z);
            was = z;
        }
        check.due("no finding", x.status(-1), 0);
    }

    /** One that answers a finding changes nothing but status(): here many, one behind the other. */
    private static void aFindingChangesNothing() {
        new Edges(check).refused("the last of many findings", () -> {
            PumpTalk x = Edges.some();
            for (int s = -1; s <= 4; s += 5) {
                x.write(s, 0, 1);
                x.copy(0, 0, s, 0, 1);
                x.load(s);
            }
            x.feed(0, 5);
            x.quarrels(21);
            return x;
        }, x -> x.go(101), Check.BEYOND);
    }

    /** Quotients are cut (towards 0): half of what is odd. */
    private static void quotientsAreCut() {
        PumpTalk x = Check.square("friend");
        int[] strokes = {1, 1, 2, 2, 3, 3, 4, 4, 5, 5};
        for (int voice = 0; voice <= 9; voice++) {
            x.change(0, 1, voice);
            check.due("half of a deaf one of voice " + voice, x.reply(0, 1, 1), strokes[voice]);
        }
    }

    /** Of several that would do the least number counts, where nothing else is told. */
    private static void leastOfSeveral() {
        PumpTalk x = Check.square("deaf;deaf;deaf;deaf");
        check.due("pairs", x.best(60), 1);
        check.due("partners", x.partner(3, 60), 0);
        check.due("subjects", x.subjectFor(2, 3, 60), 0);
        check.due("kinds", x.kindFor(2, 3, 60), 0);
        check.due("views", x.viewFor(2, 3, 0, 0), -9);
        check.due("voices", x.voiceFor(2, 3, 0, 60), 0);
    }

    /** SUBJECTS 0 to 5, round (behind 5 comes 0). */
    private static void behindFiveComesZero() {
        PumpTalk x = Check.square("deaf;deaf;pair 0 1;on 4");
        x.go(1);
        check.due("behind 4", x.now(2), 5);
        x.go(1);
        check.due("behind 5", x.now(2), 0);
        x.go(1);
        check.due("behind 0", x.now(2), 1);
        x.go(6);
        check.due("once round", x.now(2), 1);
        check.due("subject 6 is none", x.subject(6), Check.BEYOND);
        check.due("subject -1 is none", x.subject(-1), Check.BEYOND);
    }

    /** WATER: 0 to 999999, at most; 0 at first. */
    private static void waterAtMost() {
        PumpTalk x = Check.square("lawyer voice 9 thinks 9;lawyer voice 9 thinks -9");
        check.due("at first", x.now(1), 0);
        x.pair(0, 1);
        for (int i = 0; i < 185; i++) {
            x.go(100);
        }
        x.go(18);
        check.due("54 a minute", x.now(1), 999972);
        x.change(0, 1, 0);
        x.change(1, 1, 0);
        // The two give 36 a minute now, 9 more than there is room for.
        check.due("at most", x.ahead(1), 999999);
        check.due("filled at the edge", x.filled(999999), 1);
        check.due("filled just below", x.filled(999973), 1);
        check.due("filled as it is", x.filled(999972), 0);
        check.due("36 would come all the same", x.gives(0, 1, 1), 36);
        x.change(0, 0, 1);
        x.change(1, 0, 6);
        x.change(1, 1, 9);
        // 2 of the deaf one, 5 of the friend; four such minutes would be 28. The friend moves by 9, 4, 2, 1.
        check.due("just not full", x.ahead(3), 999993);
        check.due("held at 999999", x.ahead(4), 999999);
        check.due("held at 999999", x.go(4), 999999);
        check.due("still", x.quarrels(20), 999999);
        check.due("full at once", x.filled(999999), 0);
    }

    /** PEOPLE 0, 1, .. (at most 8). */
    private static void peopleAtMost() {
        PumpTalk x = Check.square("deaf;deaf;deaf;deaf;deaf;deaf;deaf");
        check.due("a 7th is there", x.of(6, 0), 1);
        check.due("an 8th isn't", x.of(7, 0), Check.BEYOND);
        check.due("the 8th", x.person(6), 7);
        check.due("the 8th is there", x.of(7, 0), 6);
        check.due("a 9th", x.person(6), Check.FULL);
        check.due("a 9th isn't there", x.of(8, 0), Check.BEYOND);
    }

    /** A VIEW is held within -9 to 9: here what would go above 9. */
    private static void viewsAreHeldAbove() {
        String[] kinds = {"lawyer", "master", "trinity"};
        for (String kind : kinds) {
            PumpTalk x = Check.square(kind + " thinks 8;deaf thinks 7;pair 0 1");
            x.go(1);
            check.due(kind + " comes to 9", x.of(0, 2), 9);
            x = Check.square(kind + " thinks 9;deaf thinks 8;pair 0 1");
            x.go(1);
            check.due(kind + " is held at 9", x.of(0, 2), 9);
            check.due(kind + " is held at 9 ahead", x.view(0, 0, 1), kind.equals("lawyer") ? 9 : 8);
        }
    }

    /** A VIEW is held within -9 to 9: here what would go below -9. */
    private static void viewsAreHeldBelow() {
        String[] kinds = {"lawyer", "master", "trinity"};
        for (String kind : kinds) {
            PumpTalk x = Check.square("deaf thinks -7;" + kind + " thinks -8;pair 0 1");
            x.go(1);
            check.due(kind + " comes to -9", x.of(1, 2), -9);
            x = Check.square("deaf thinks -8;" + kind + " thinks -9;pair 0 1");
            x.go(1);
            check.due(kind + " is held at -9", x.of(1, 2), -9);
            check.due(kind + " is held at -9 ahead", x.view(1, 0, 1), kind.equals("lawyer") ? -9 : -8);
        }
    }

    /** FRIEND: as a DEAF one, and half (cut) of g: none of 1, 9 of 18. */
    private static void halfOfG() {
        PumpTalk x = Check.square("friend thinks 1;deaf;friend thinks 9;friend thinks -9;friend thinks 3");
        int[] gs = {1, 2, 3, 17, 18};
        int[] halves = {0, 1, 1, 8, 9};
        for (int i = 0; i < gs.length; i++) {
            check.due("half of " + gs[i], x.reply(0, gs[i], 0), halves[i]);
        }
        x.pair(0, 1);
        x.go(1);
        check.due("1 apart for good", x.apart(0, 1, 0), 1);
        x.pair(2, 3);
        x.go(1);
        check.due("both half of the way", x.of(2, 2), 0);
        check.due("both half of the way", x.of(3, 2), 0);
        x.pair(4, 1);
        x.go(1);
        check.due("1 of 3", x.of(4, 2), 2);
    }

    /** TRINITY: as a MASTER, and 1 if g is above 5. */
    private static void aboveFive() {
        PumpTalk x = Check.square("trinity");
        int[][] due = {{-1, -1, 0, 0}, {1, 1, 2, 2}, {-1, -1, 0, 0}};
        int[] gs = {1, 5, 6, 18};
        for (int minute = 0; minute < due.length; minute++) {
            for (int i = 0; i < gs.length; i++) {
                check.due("g " + gs[i] + ", minute " + minute, x.reply(0, gs[i], 0), due[minute][i]);
            }
            x.go(1);
        }
    }

    /** MASTER: as a LAWYER, if MINUTE is even, else 1; 0 is even. */
    private static void evenMinutes() {
        PumpTalk x = Check.square("master thinks 3;deaf;pair 0 1");
        int[] views = {4, 3, 4, 3, 4};
        for (int minute = 0; minute < views.length; minute++) {
            check.due("minute " + minute, x.reply(0, 1, 0), minute % 2 == 0 ? -1 : 1);
            x.go(1);
            check.due("view behind minute " + minute, x.of(0, 2), views[minute]);
        }
    }

    /** MASTER: as a LAWYER, less 1 (0 at least); TRINITY: twice that. */
    private static void lessOneButNotBelowNone() {
        PumpTalk x = Check.square("master voice 0 thinks 1;master voice 0;trinity voice 0 thinks -1");
        check.due("voice 0, g 1", x.reply(0, 1, 1), 0);
        check.due("voice 0, g 2", x.reply(0, 2, 1), 1);
        check.due("twice none", x.reply(2, 1, 1), 0);
        check.due("twice 1", x.reply(2, 2, 1), 2);
        x.pair(0, 1);
        check.due("no water", x.go(1), 0);
        check.due("they moved all the same", x.of(0, 2), 2);
        check.due("they moved all the same", x.of(1, 2), -1);
        check.due("still on the subject", x.now(2), 0);
        x.change(2, 1, 9);
        check.due("the most there is", x.reply(2, 18, 1), 52);
    }

    /** WED: as a PERSON, and 10, if MINUTE is a multiple of 7; 0 is one. */
    private static void multiplesOfSeven() {
        PumpTalk x = Check.square("wed voice 0;wed voice 9");
        for (int minute = 0; minute <= 15; minute++) {
            int more = minute == 0 || minute == 7 || minute == 14 ? 10 : 0;
            check.due("voice 0, minute " + minute, x.reply(0, 1, 1), more);
            check.due("voice 9, minute " + minute, x.reply(1, 18, 1), 9 + more);
            x.go(1);
        }
    }

    /** If nobody is AT THE HANDLE, nothing comes; MINUTE is one more; DRY (or nobody is AT THE HANDLE). */
    private static void nobodyAtTheHandle() {
        PumpTalk x = Check.square("deaf thinks 1 2 3;lawyer thinks -1;on 2");
        check.due("nobody at first", x.now(3), -1);
        check.due("no water", x.go(100), 0);
        check.due("the subject stays", x.now(2), 2);
        check.due("the views stay", x.of(1, 2), -1);
        check.due("minutes", x.now(0), 100);
        check.due("dry", x.dry(), 0);
        check.due("no subjects", x.now(4), 0);
    }

    /** If g is 0, they go on to the next SUBJECT: nothing comes, and no VIEW moves. */
    private static void noneApart() {
        PumpTalk x = Check.square("wed voice 9 thinks 5 -5;lawyer voice 9 thinks 5 5;pair 0 1");
        check.due("no water at minute 0", x.go(1), 0);
        check.due("the next subject", x.now(2), 1);
        check.due("no move", x.of(0, 2), 5);
        check.due("no move", x.of(1, 2), 5);
        check.due("minute", x.now(0), 1);
        check.due("then 10 apart", x.go(1), 9 + 9 + 10);
        check.due("the subject stays behind a reply", x.now(2), 1);
    }

    /** The VIEWS of both move at once (each by how both were). */
    private static void bothAtOnce() {
        PumpTalk x = Check.square("person thinks 4;wed;pair 0 1");
        x.go(1);
        check.due("towards where it was", x.of(0, 2), 3);
        check.due("to where the other one was", x.of(1, 2), 4);
        x = Check.square("wed;person thinks 4;pair 0 1");
        x.go(1);
        check.due("to where the other one was", x.of(0, 2), 4);
        check.due("towards where it was", x.of(1, 2), 3);
        x = Check.square("person thinks -9;person thinks -8;pair 0 1");
        x.go(1);
        check.due("past one another", x.of(0, 2), -8);
        check.due("past one another", x.of(1, 2), -9);
    }

    /**
     * MINUTE is one more (99999 at most): 512 calls of 100 MINUTES come to 51200 at most, so that is
     * looked at there.
     */
    private static void minuteAtMost() {
        PumpTalk x = new PumpTalk();
        for (int i = 1; i <= 510; i++) {
            check.due("go", x.go(100), 0);
        }
        check.due("minute", x.now(0), 51000);
        check.due("no finding", x.status(4), 0);
    }

    /** Each draw makes z z * 1103515245 + 12345 (an int), and gives z >>> 8: never below 0. */
    private static void drawsWrapAround() {
        int[] seeds = {1, 0, -1, Integer.MIN_VALUE, Integer.MAX_VALUE, -1000001};
        int[] behind = {-1770082073, -740551042, 288979989, 1406932606, -1858503659, 1889325013};
        int[] handles = {6 * 8, 6, 8 + 4, 6, 8 + 4, 4 * 8 + 7};
        for (int i = 0; i < seeds.length; i++) {
            PumpTalk x = Check.square("deaf;deaf;deaf;deaf;deaf;deaf;deaf;deaf");
            x.seed(seeds[i]);
            check.due("no water", x.quarrels(1), 0);
            check.due("z behind two draws from " + seeds[i], x.count(6), behind[i]);
            check.due("handle behind two draws from " + seeds[i], x.now(3), handles[i]);
        }
    }

    /** Numbers of 8, 16 or 32 bits, told with their sign: of 8 bits 255 is -1. */
    private static void signOfNumbers() {
        int[] bits = {8, 8, 8, 16, 16, 16, 32, 32, 32};
        int[] written = {255, 247, 248, 65535, 65527, 65526, -1, -9, -10};
        int[] views = {-1, -9, -8, -1, -9, 5, -1, -9, 5};
        for (int i = 0; i < bits.length; i++) {
            PumpTalk x = Check.square("deaf thinks 5");
            x.sheet(0, bits[i], 1);
            x.write(0, 0, written[i]);
            x.load(0);
            check.due(written[i] + " of " + bits[i] + " bits", x.of(0, 2), views[i]);
        }
        // 22 a minute, and 17 or 18 in the last: 127 is the most of 8 bits, 128 is -128 there.
        for (int more = 0; more <= 1; more++) {
            PumpTalk x = Check.square("deaf voice 9 thinks 1;deaf voice 9;pair 0 1");
            x.go(5);
            x.change(0, 1, 4 + more);
            check.due("water", x.go(1), 127 + more);
            x.sheet(0, 8, 1);
            x.write(0, 0, 127 + more);
            check.due("of 8 bits", x.fits(0, 0), more == 0 ? 19 : 0);
            x.sheet(0, 16, 1);
            x.write(0, 0, 127 + more);
            check.due("of 16 bits", x.fits(0, 0), 19);
        }
        // 54 a minute, and 43 or 44 in the last: 32767 is the most of 16 bits.
        for (int more = 0; more <= 1; more++) {
            PumpTalk x = Check.square("lawyer voice 9 thinks 9;lawyer voice 9 thinks -9;pair 0 1");
            for (int i = 0; i < 6; i++) {
                x.go(100);
            }
            x.go(6);
            x.change(0, 1, 7 + more);
            x.change(1, 1, 0);
            check.due("water", x.go(1), 32767 + more);
            x.sheet(0, 16, 1);
            x.write(0, 0, 32767 + more);
            check.due("of 16 bits", x.fits(0, 0), more == 0 ? 19 : 0);
            x.sheet(0, 32, 1);
            x.write(0, 0, 32767 + more);
            check.due("of 32 bits", x.fits(0, 0), 19);
        }
    }
}
