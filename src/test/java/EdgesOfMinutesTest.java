/** The edges of promises 10 to 16, each sentence with a test of its own. */
public final class EdgesOfMinutesTest {
    private static final Check check = new Check("EdgesOfMinutesTest");
    private static final Edges edges = new Edges(check);
    private static final int MIN = Integer.MIN_VALUE;
    private static final int MAX = Integer.MAX_VALUE;

    public static void main(String[] args) {
        goOneAndHundred();
        goBeyond();
        goState();
        nowEachWhat();
        nowOfNobody();
        nowBeyond();
        aheadNoneAndMost();
        aheadBeyond();
        viewNoneAndMost();
        viewBeyond();
        dryAtOnceLateNever();
        filledAtOnceLateNever();
        filledBeyond();
        roundSoonLateNever();
        check.end();
    }

    /** Two deaf ones, 1 apart: 10 a minute, for good. */
    private static PumpTalk deafOnes() {
        return Check.square("deaf thinks 1;deaf;pair 0 1");
    }

    // Promise 10: n MINUTES (1 to 100): WATER then. BEYOND. STATE: MINUTE would be above 99999.

    private static void goOneAndHundred() {
        PumpTalk x = deafOnes();
        check.due("go(1)", x.go(1), 10);
        check.due("minute", x.now(0), 1);
        check.due("go(100)", x.go(100), 1010);
        check.due("minute", x.now(0), 101);
        check.due("water then, not what came", x.go(1), 1020);
    }

    private static void goBeyond() {
        for (int n : new int[] {MIN, -1, 0, 101, MAX}) {
            edges.refused("go(" + n + ")", Edges::some, x -> x.go(n), Check.BEYOND);
            edges.refused("go(" + n + ") of nobody", PumpTalk::new, x -> x.go(n), Check.BEYOND);
        }
    }

    /** STATE: MINUTE would be above 99999. */
    private static void goState() {
        edges.refused("99900 and 100", () -> Edges.late(99900), x -> x.go(100), Check.STATE);
        edges.refused("99999 and 1", () -> Edges.late(99999), x -> x.go(1), Check.STATE);
        edges.refused("BEYOND before STATE", () -> Edges.late(99999), x -> x.go(101), Check.BEYOND);
        edges.refused("BEYOND before STATE", () -> Edges.late(99999), x -> x.go(0), Check.BEYOND);
        PumpTalk x = Edges.late(99900);
        x.rest();
        check.due("99900 and 99", x.go(99), 0);
        check.due("minute", x.now(0), 99999);
        check.due("no finding", x.status(-1), 0);
        // MINUTE stays 99999, odd, so that the master comes nearer each time.
        edges.told("99999 at most", () -> Edges.late(99999), y -> y.view(0, 0, 5), 0);
    }

    // Promise 11: what 0 MINUTE to 5 VOICES of all together. BEYOND.

    private static void nowEachWhat() {
        PumpTalk x = Check.square("deaf voice 9 thinks 1 0 0 0 0 1;wed voice 0;wed;pair 1 0;on 5");
        x.go(1);
        int[] due = {1, 11 + 10, 5, 8, 1, 12};
        for (int what = 0; what <= 5; what++) {
            int asked = what;
            check.due("now(" + what + ")", x.now(what), due[what]);
            edges.told("now(" + what + ")", () -> {
                PumpTalk y = Check.square("deaf voice 9 thinks 1 0 0 0 0 1;wed voice 0;wed;pair 1 0;on 5");
                y.go(1);
                return y;
            }, y -> y.now(asked), due[what]);
        }
        x = Check.square("deaf thinks 1 1 1 1 1 1;deaf;pair 0 1");
        check.due("on all", x.now(4), 63);
        x.change(0, 2, 0);
        check.due("but on the first", x.now(4), 62);
        x.change(0, 7, 0);
        check.due("nor on the last", x.now(4), 30);
        x = Edges.full();
        x.pair(6, 7);
        check.due("the last two", x.now(3), 55);
        x.pair(7, 6);
        check.due("the last two", x.now(3), 62);
    }

    /** 3: -1: nobody; 4: 0: nobody. */
    private static void nowOfNobody() {
        PumpTalk x = Check.square("deaf thinks 1;deaf;pair 0 1");
        x.rest();
        check.due("nobody at the handle", x.now(3), -1);
        check.due("no subjects", x.now(4), 0);
        check.due("voices", x.now(5), 6);
        check.due("voices of nobody", new PumpTalk().now(5), 0);
        check.due("no finding", x.status(-1), 0);
    }

    private static void nowBeyond() {
        for (int what : new int[] {MIN, -1, 6, MAX}) {
            edges.refused("now(" + what + ")", Edges::some, x -> x.now(what), Check.BEYOND);
        }
    }

    // Promise 12: WATER behind n (0 to 200) MINUTES. BEYOND.

    private static void aheadNoneAndMost() {
        edges.told("ahead(0)", EdgesOfMinutesTest::deafOnes, x -> x.ahead(0), 0);
        edges.told("ahead(1)", EdgesOfMinutesTest::deafOnes, x -> x.ahead(1), 10);
        edges.told("ahead(200)", EdgesOfMinutesTest::deafOnes, x -> x.ahead(200), 2000);
        edges.told("ahead(200) of nobody", PumpTalk::new, x -> x.ahead(200), 0);
        PumpTalk x = deafOnes();
        x.go(7);
        check.due("water as it is", x.ahead(0), 70);
        check.due("from now on", x.ahead(200), 2070);
    }

    private static void aheadBeyond() {
        for (int n : new int[] {MIN, -1, 201, MAX}) {
            edges.refused("ahead(" + n + ")", Edges::some, x -> x.ahead(n), Check.BEYOND);
        }
    }

    // Promise 13: VIEW of one on a SUBJECT behind n (0 to 200) MINUTES. BEYOND.

    private static void viewNoneAndMost() {
        Edges.Made swapping = () -> Check.square("person thinks 0 0 0 0 0 4;person thinks 0 0 0 0 0 5;pair 0 1;on 5");
        edges.told("view behind 0", swapping, x -> x.view(0, 5, 0), 4);
        edges.told("view behind 1", swapping, x -> x.view(0, 5, 1), 5);
        edges.told("view behind 199", swapping, x -> x.view(0, 5, 199), 5);
        edges.told("view behind 200", swapping, x -> x.view(0, 5, 200), 4);
        edges.told("of the other one", swapping, x -> x.view(1, 5, 199), 4);
        edges.told("on another subject", swapping, x -> x.view(1, 0, 200), 0);
        Edges.Made chase = () -> Check.square("person thinks -9;lawyer thinks -8;deaf thinks 2;pair 0 1");
        edges.told("at the edge", chase, x -> x.view(1, 0, 200), 9);
        edges.told("who stands by", chase, x -> x.view(2, 0, 200), 2);
    }

    private static void viewBeyond() {
        int[][] beyond = {{4, 0, 0}, {-1, 0, 0}, {0, -1, 0}, {0, 6, 0}, {0, 0, -1}, {0, 0, 201}, {MIN, 0, 0}, {0, MAX,
            0},
            {0, 0, MIN}, {0, 0, MAX}};
        for (int[] c : beyond) {
            edges.refused("view(" + c[0] + ", " + c[1] + ", " + c[2] + ")", Edges::some,
                    x -> x.view(c[0], c[1], c[2]), Check.BEYOND);
        }
    }

    // Promise 14: Behind how many MINUTES (0 to 300, the fewest) it is DRY. NONE.

    /** No quarrel lasts longer and still ends than 113 MINUTES: six times 18, and five to go on. */
    private static void dryAtOnceLateNever() {
        edges.told("nobody", () -> Check.square("deaf thinks 1;deaf"), PumpTalk::dry, 0);
        edges.told("who agree", () -> Check.square("deaf;deaf;pair 0 1;on 3"), PumpTalk::dry, 0);
        edges.told("in one minute", () -> Check.square("wed thinks 1;deaf;pair 0 1"), PumpTalk::dry, 1);
        edges.told("the subject behind", () -> Check.square("wed thinks 1;deaf;pair 0 1;on 1"), PumpTalk::dry, 6);
        String chase = "lawyer thinks -8 -8 -8 -8 -8 -8;person thinks -9 -9 -9 -9 -9 -9;pair 0 1";
        edges.told("the latest", () -> Check.square(chase), PumpTalk::dry, 113);
        edges.refused("never", EdgesOfMinutesTest::deafOnes, PumpTalk::dry, Check.NONE);
        PumpTalk x = Check.square(chase);
        x.go(100);
        x.go(12);
        check.due("the last minute", x.dry(), 1);
        x.go(1);
        check.due("dry", x.dry(), 0);
        check.due("which is when all agree", x.now(4), 0);
    }

    // Promise 15: Behind how many MINUTES (0 to 300, the fewest) WATER is v (0 to 999999) or more. BEYOND. NONE.

    private static void filledAtOnceLateNever() {
        edges.told("none is there", PumpTalk::new, x -> x.filled(0), 0);
        edges.refused("no water comes", PumpTalk::new, x -> x.filled(1), Check.NONE);
        edges.told("the first", EdgesOfMinutesTest::deafOnes, x -> x.filled(1), 1);
        edges.told("as much", EdgesOfMinutesTest::deafOnes, x -> x.filled(10), 1);
        edges.told("one more", EdgesOfMinutesTest::deafOnes, x -> x.filled(11), 2);
        edges.told("the last minute", EdgesOfMinutesTest::deafOnes, x -> x.filled(2991), 300);
        edges.told("the last minute", EdgesOfMinutesTest::deafOnes, x -> x.filled(3000), 300);
        edges.refused("one more", EdgesOfMinutesTest::deafOnes, x -> x.filled(3001), Check.NONE);
        edges.refused("the most", EdgesOfMinutesTest::deafOnes, x -> x.filled(999999), Check.NONE);
    }

    private static void filledBeyond() {
        for (int v : new int[] {MIN, -1, 1000000, MAX}) {
            edges.refused("filled(" + v + ")", Edges::some, x -> x.filled(v), Check.BEYOND);
            edges.refused("BEYOND before NONE", PumpTalk::new, x -> x.filled(v), Check.BEYOND);
        }
    }

    // Promise 16: Behind how many MINUTES (1 to 300, the fewest) SUBJECT and VIEWS of all are as now. NONE.

    /** No quarrel comes round later than six MINUTES behind, when all agree. */
    private static void roundSoonLateNever() {
        edges.told("nobody at the handle", () -> Check.square("deaf thinks 1;deaf"), PumpTalk::round, 1);
        edges.told("nobody at all", PumpTalk::new, PumpTalk::round, 1);
        edges.told("deaf ones", EdgesOfMinutesTest::deafOnes, PumpTalk::round, 1);
        edges.told("past one another and back", () -> Check.square("person thinks -9;person thinks -8;pair 0 1"),
                PumpTalk::round, 2);
        edges.told("behind four", () -> Check.square("person thinks -9;master thinks -8;pair 0 1"), PumpTalk::round, 4);
        edges.told("round the subjects", () -> Check.square("deaf;deaf;pair 0 1;on 5"), PumpTalk::round, 6);
        edges.refused("a view that was left", () -> Check.square("person thinks 2;deaf;pair 0 1"), PumpTalk::round,
                Check.NONE);
        edges.refused("a subject that was left", () -> Check.square("deaf thinks 0 1;deaf;pair 0 1"), PumpTalk::round,
                Check.NONE);
    }
}
