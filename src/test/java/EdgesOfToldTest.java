/** The edges of promises 26 to 31, each sentence with a test of its own. */
public final class EdgesOfToldTest {
    private static final Check check = new Check("EdgesOfToldTest");
    private static final Edges edges = new Edges(check);
    private static final int MIN = Integer.MIN_VALUE;
    private static final int MAX = Integer.MAX_VALUE;

    public static void main(String[] args) {
        fitsNoneAndAll();
        fitsFirstAndLastNumber();
        fitsFindingsInOrder();
        thoughtLeastAndMost();
        thoughtFindingsInOrder();
        kindsNoneAndAll();
        kindsFindingsInOrder();
        quarrelsOneAndTwenty();
        quarrelsAllStays();
        quarrelsBeyond();
        quarrelsState();
        oddsNoneAndTen();
        oddsOfFewAndMany();
        oddsBeyond();
        seedAnyInt();
        check.end();
    }

    private static PumpTalk telling(String text, int bits, int... water) {
        PumpTalk x = Check.square(text);
        x.sheet(0, bits, water.length);
        for (int i = 0; i < water.length; i++) {
            x.write(0, i, water[i]);
        }
        return x;
    }

    private static int[] tens(int n) {
        int[] water = new int[n];
        for (int i = 0; i < n; i++) {
            water[i] = 10 * i;
        }
        return water;
    }

    /** A lawyer and a deaf one, both at 0: the view of either tells how far they are apart. */
    private static final String LAWYER = "lawyer;deaf;deaf;pair 0 1";
    private static final String DEAF = "deaf thinks 1;deaf;deaf;pair 0 1";

    // Promise 26: How many VIEWS (-9 to 9) one could have, so that WATER is as a sheet tells (-1: any).

    private static void fitsNoneAndAll() {
        edges.told("an empty sheet", () -> telling(LAWYER, 8), x -> x.fits(0, 0), 19);
        edges.told("any", () -> telling(LAWYER, 8, -1, -1, -1), x -> x.fits(0, 0), 19);
        edges.told("any, as 255 of 8 bits", () -> telling(LAWYER, 8, 255, 255), x -> x.fits(0, 0), 19);
        edges.told("any, as 65535 of 16 bits", () -> telling(LAWYER, 16, 65535, 65535), x -> x.fits(0, 0), 19);
        edges.told("not any: 255 of 16 bits", () -> telling(LAWYER, 16, 255), x -> x.fits(0, 0), 0);
        edges.told("not any: 65535 of 32 bits", () -> telling(LAWYER, 32, 65535), x -> x.fits(0, 0), 0);
        edges.told("not any: -2", () -> telling(LAWYER, 32, -2), x -> x.fits(0, 0), 0);
        edges.told("one", () -> telling(LAWYER, 8, 0, 0), x -> x.fits(0, 0), 1);
        edges.told("two", () -> telling(LAWYER, 8, 0, 3 + 9 + 5), x -> x.fits(0, 0), 2);
        edges.told("all but one", () -> telling(DEAF, 8, 0, 10), x -> x.fits(0, 0), 18);
        edges.told("none: 10 apart", () -> telling(LAWYER, 8, 0, 3 + 10 + 5), x -> x.fits(0, 0), 0);
        edges.told("who stands by", () -> telling(DEAF, 8, 0, 10), x -> x.fits(0, 2), 19);
        edges.told("who stands by", () -> telling(DEAF, 8, 0, 11), x -> x.fits(0, 2), 0);
        edges.told("nobody at the handle", () -> telling("deaf", 8, 0, 0, 0), x -> x.fits(0, 0), 19);
    }

    /** WATER now is number 0, and WATER behind 39 MINUTES number 39. */
    private static void fitsFirstAndLastNumber() {
        edges.told("forty numbers", () -> telling(DEAF, 16, tens(40)), x -> x.fits(0, 1), 18);
        edges.told("forty numbers, the last another one", () -> {
            PumpTalk x = telling(DEAF, 16, tens(40));
            x.write(0, 39, 391);
            return x;
        }, x -> x.fits(0, 1), 0);
        edges.told("forty numbers, the last any", () -> {
            PumpTalk x = telling(DEAF, 16, tens(40));
            x.write(0, 39, -1);
            return x;
        }, x -> x.fits(0, 1), 18);
        edges.told("of 8 bits behind 12 minutes", () -> telling(DEAF, 8, tens(13)), x -> x.fits(0, 1), 18);
        edges.told("130 of 8 bits is -126", () -> telling(DEAF, 8, tens(14)), x -> x.fits(0, 1), 0);
        edges.told("the first another one", () -> telling(DEAF, 8, 1, 10), x -> x.fits(0, 1), 0);
        PumpTalk x = telling(DEAF, 16, tens(40));
        x.go(1);
        check.due("water now is another", x.fits(0, 1), 0);
        x.write(0, 0, -1);
        x.write(0, 1, 20);
        check.due("water now is any", x.fits(0, 1), 0);
        x.sheet(0, 16, 2);
        x.write(0, 0, 10);
        x.write(0, 1, 20);
        check.due("water now and then", x.fits(0, 1), 18);
    }

    private static void fitsFindingsInOrder() {
        for (int s : new int[] {MIN, -1, 4, MAX}) {
            edges.refused("no such sheet " + s, Edges::some, x -> x.fits(s, -1), Check.BEYOND);
        }
        edges.refused("MISSING before no such one", Edges::some, x -> x.fits(3, 4), Check.MISSING);
        for (int person : new int[] {MIN, -1, 4, MAX}) {
            edges.refused("no such one " + person, Edges::some, x -> x.fits(0, person), Check.BEYOND);
        }
        edges.refused("no such one for an empty sheet", Edges::some, x -> x.fits(2, 4), Check.BEYOND);
    }

    // Promise 27: The least of them. BEYOND, MISSING, BEYOND likewise. NONE.

    private static void thoughtLeastAndMost() {
        edges.told("the least", () -> telling(LAWYER, 8, 0, 3 + 9 + 5), x -> x.thought(0, 0), -9);
        edges.told("the most", () -> telling("lawyer;deaf thinks -9;pair 0 1", 8, 0, 3 + 18 + 5), x -> x.thought(0,
                0), 9);
        edges.told("the one", () -> telling(LAWYER, 8, 0, 0), x -> x.thought(0, 0), 0);
        edges.told("an empty sheet", () -> telling(LAWYER, 8), x -> x.thought(0, 2), -9);
        edges.refused("none", () -> telling(LAWYER, 8, 0, 3 + 10 + 5), x -> x.thought(0, 0), Check.NONE);
        edges.refused("none", () -> telling(LAWYER, 8, 1), x -> x.thought(0, 2), Check.NONE);
    }

    private static void thoughtFindingsInOrder() {
        for (int s : new int[] {MIN, -1, 4, MAX}) {
            edges.refused("no such sheet " + s, Edges::some, x -> x.thought(s, -1), Check.BEYOND);
        }
        edges.refused("MISSING before no such one", Edges::some, x -> x.thought(3, 4), Check.MISSING);
        for (int person : new int[] {MIN, -1, 4, MAX}) {
            edges.refused("no such one before NONE " + person, Edges::some, x -> x.thought(0, person), Check.BEYOND);
        }
    }

    // Promise 28: KINDS that one could be of, as a set, likewise.

    private static void kindsNoneAndAll() {
        edges.told("an empty sheet", () -> telling(LAWYER, 8), x -> x.kinds(0, 0), 127);
        edges.told("who agree", () -> telling(LAWYER, 8, 0, 0, 0, 0), x -> x.kinds(0, 0), 127);
        edges.told("none, and no finding", () -> telling(LAWYER, 8, 1), x -> x.kinds(0, 0), 0);
        // At minute 0, 1 apart, voice 3: 3, 5, 4, 3, 6, 13, 2, and 5 of the deaf one.
        edges.told("the least and another one", () -> telling(DEAF, 8, 0, 8), x -> x.kinds(0, 0), 1 + 8);
        edges.told("the greatest", () -> telling(DEAF, 8, 0, 7), x -> x.kinds(0, 0), 64);
        edges.told("forty numbers", () -> telling(DEAF, 16, tens(40)), x -> x.kinds(0, 0), 2);
        edges.told("forty numbers, the last another one", () -> {
            PumpTalk x = telling(DEAF, 16, tens(40));
            x.write(0, 39, 389);
            return x;
        }, x -> x.kinds(0, 0), 0);
    }

    private static void kindsFindingsInOrder() {
        for (int s : new int[] {MIN, -1, 4, MAX}) {
            edges.refused("no such sheet " + s, Edges::some, x -> x.kinds(s, -1), Check.BEYOND);
        }
        edges.refused("MISSING before no such one", Edges::some, x -> x.kinds(3, 4), Check.MISSING);
        for (int person : new int[] {MIN, -1, 4, MAX}) {
            edges.refused("no such one " + person, Edges::some, x -> x.kinds(0, person), Check.BEYOND);
        }
    }

    // Promise 29: n times (1 to 20) two draws, then a MINUTE: WATER then. BEYOND. STATE.

    private static void quarrelsOneAndTwenty() {
        PumpTalk x = Check.square(DEAF);
        x.seed(4);
        check.due("draws 1, 0", x.quarrels(1), 10);
        check.due("the first drawn is told first", x.now(3), 8);
        check.due("two draws", x.count(6), -563707870);
        check.due("a minute", x.now(0), 1);
        PumpTalk y = Check.square(DEAF);
        y.seed(4);
        check.due("one and nineteen are twenty", x.quarrels(19), y.quarrels(20));
        check.due("z", x.count(6), y.count(6));
        check.due("twenty minutes", y.now(0), 20);
        check.due("handle", x.now(3), y.now(3));
    }

    /**
     * The ones of the rests by 8 of both are AT THE HANDLE, if there are such and these are unlike (else
     * all stays).
     */
    private static void quarrelsAllStays() {
        String five = "deaf thinks 1;deaf;deaf;deaf;deaf;pair 0 3";
        int[] seeds = {1, 0, 89, 101, 103, 4};
        int[] handles = {3, 3, 3, 3, 3, 8};
        String[] why = {"6 isn't there, 0 is", "0 is there, 6 isn't", "4 and 4", "1 and 1", "6 and 6", "1 and 0"};
        for (int i = 0; i < seeds.length; i++) {
            PumpTalk x = Check.square(five);
            x.seed(seeds[i]);
            check.due("a minute goes by: " + why[i], x.quarrels(1), 10);
            check.due(why[i], x.now(3), handles[i]);
            check.due("minute", x.now(0), 1);
        }
        PumpTalk x = Check.square("deaf thinks 1;deaf;deaf;deaf;deaf");
        x.seed(1);
        check.due("still nobody", x.quarrels(1), 0);
        check.due("still nobody", x.now(3), -1);
        x = new PumpTalk();
        check.due("nobody at all", x.quarrels(20), 0);
        check.due("nobody at all", x.now(3), -1);
        check.due("minutes all the same", x.now(0), 20);
        check.due("no finding", x.status(-1), 0);
        x = Check.square("deaf");
        check.due("one alone", x.quarrels(20), 0);
        check.due("one alone", x.now(3), -1);
        x = Edges.full();
        x.seed(143);
        x.quarrels(1);
        check.due("7 and 7 of eight", x.now(3), 1);
        x.seed(77);
        x.quarrels(1);
        check.due("7 and 0 of eight", x.now(3), 56);
        x.seed(183);
        x.quarrels(1);
        check.due("0 and 7 of eight", x.now(3), 7);
    }

    private static void quarrelsBeyond() {
        for (int n : new int[] {MIN, -1, 0, 21, MAX}) {
            edges.refused("quarrels(" + n + ")", Edges::some, x -> x.quarrels(n), Check.BEYOND);
            edges.refused("quarrels(" + n + ") of nobody", PumpTalk::new, x -> x.quarrels(n), Check.BEYOND);
        }
    }

    /** STATE: MINUTE would be above 99999; no draw is made then. */
    private static void quarrelsState() {
        edges.refused("99980 and 20", () -> Edges.late(99980), x -> x.quarrels(20), Check.STATE);
        edges.refused("99999 and 1", () -> Edges.late(99999), x -> x.quarrels(1), Check.STATE);
        edges.refused("BEYOND before STATE", () -> Edges.late(99999), x -> x.quarrels(21), Check.BEYOND);
        edges.refused("BEYOND before STATE", () -> Edges.late(99999), x -> x.quarrels(0), Check.BEYOND);
        PumpTalk x = Edges.late(99980);
        x.quarrels(19);
        check.due("99980 and 19", x.now(0), 99999);
        check.due("no finding", x.status(-1), 0);
    }

    // Promise 30: The odds that n (0 to 10) times two such draws tell two unlike ones: a fraction in lowest terms.

    private static void oddsNoneAndTen() {
        PumpTalk x = new PumpTalk();
        for (int people = 0; people <= 8; people++) {
            check.due("no times, above", x.odds(0, 0), 1);
            check.due("no times, below", x.odds(0, 1), 1);
            x.person(0);
        }
        check.due("ten times, above", x.odds(10, 0), 282475249L);
        check.due("ten times, below", x.odds(10, 1), 1073741824L);
        check.due("once, above", x.odds(1, 0), 7);
        check.due("once, below", x.odds(1, 1), 8);
    }

    private static void oddsOfFewAndMany() {
        long[] above = {0, 0, 1, 59049, 59049, 9765625, 576650390625L, 16679880978201L, 282475249};
        long[] below = {1, 1, 1L << 50, 1L << 50, 1L << 40, 1L << 40, 1L << 50, 1L << 50, 1L << 30};
        for (int people = 0; people <= 8; people++) {
            int many = people;
            Edges.Made made = () -> {
                PumpTalk x = new PumpTalk();
                for (int i = 0; i < many; i++) {
                    x.person(i % 7);
                }
                return x;
            };
            edges.told("ten times, above, of " + people, made, x -> x.odds(10, 0), above[people]);
            edges.told("ten times, below, of " + people, made, x -> x.odds(10, 1), below[people]);
        }
    }

    private static void oddsBeyond() {
        for (int n : new int[] {MIN, -1, 11, MAX}) {
            edges.refused("odds(" + n + ", 0)", Edges::some, x -> x.odds(n, 0), Check.BEYOND);
            edges.refused("odds(" + n + ", 1) of nobody", PumpTalk::new, x -> x.odds(n, 1), Check.BEYOND);
        }
        for (int what : new int[] {MIN, -1, 2, MAX}) {
            edges.refused("odds(0, " + what + ")", Edges::some, x -> x.odds(0, what), Check.BEYOND);
        }
    }

    // Promise 31: z becomes v: what it was.

    private static void seedAnyInt() {
        PumpTalk x = Edges.some();
        check.due("from -77", x.seed(MIN), -77);
        check.due("from the least", x.seed(MAX), MIN);
        check.due("from the most", x.seed(-1000001), MAX);
        check.due("as a finding", x.seed(0), -1000001);
        check.due("from 0", x.seed(1), 0);
        check.due("no finding", x.status(-1), 0);
    }
}
