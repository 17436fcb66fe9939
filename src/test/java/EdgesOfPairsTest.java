/** The edges of promises 17 to 25, each sentence with a test of its own. */
public final class EdgesOfPairsTest {
    private static final Check check = new Check("EdgesOfPairsTest");
    private static final Edges edges = new Edges(check);
    private static final int MIN = Integer.MIN_VALUE;
    private static final int MAX = Integer.MAX_VALUE;
    private static final int[] NOT_TO_SIXTY = {MIN, -1, 61, MAX};
    private static final int[] NOT_TO_THIRTY = {MIN, -1, 31, MAX};
    private static final int[][] NO_TWO = {{0, 0}, {3, 3}, {0, 4}, {4, 0}, {-1, 0}, {0, -1}, {4, 4}, {MIN, 0}, {0,
            MAX}};

    public static void main(String[] args) {
        givesNoneAndMost();
        givesAboveTheMostWater();
        givesBeyond();
        bestOfTwoAndOfEight();
        bestBeyond();
        bestNone();
        partnerFirstAndLast();
        partnerBeyond();
        partnerNone();
        subjectForFirstAndLast();
        subjectForBeyond();
        matchedOfFewAndMany();
        matchedBeyond();
        matchOfWithNobody();
        matchOfTheLeast();
        matchOfBeyond();
        kindForEdges();
        kindForBeyond();
        viewForEdges();
        viewForBeyond();
        voiceForEdges();
        voiceForBeyond();
        voiceForNone();
        check.end();
    }

    private static PumpTalk three() {
        return Check.square("deaf thinks 1;deaf;deaf voice 9;on 5;pair 1 2");
    }

    // Promise 17: on the SUBJECT as it is, behind n (0 to 60) MINUTES (WATER above 999999 counted, too).

    private static void givesNoneAndMost() {
        edges.told("gives in 0", EdgesOfPairsTest::three, x -> x.gives(0, 1, 0), 0);
        edges.told("gives in 1: agreed on subject 5", EdgesOfPairsTest::three, x -> x.gives(0, 1, 1), 0);
        edges.told("gives in 2", EdgesOfPairsTest::three, x -> x.gives(0, 1, 2), 10);
        edges.told("gives in 60", EdgesOfPairsTest::three, x -> x.gives(0, 1, 60), 590);
        edges.told("told the other way", EdgesOfPairsTest::three, x -> x.gives(1, 0, 60), 590);
        edges.told("who agree", EdgesOfPairsTest::three, x -> x.gives(1, 2, 60), 0);
    }

    private static void givesAboveTheMostWater() {
        PumpTalk x = Check.square("lawyer voice 9 thinks 9;lawyer voice 9 thinks -9;deaf;pair 0 1");
        for (int i = 0; i < 186; i++) {
            x.go(100);
        }
        check.due("full", x.now(1), 999999);
        check.due("no more will be", x.ahead(60), 999999);
        check.due("gives all the same", x.gives(0, 1, 60), 54 * 60);
        check.due("gives all the same", x.gives(0, 1, 1), 54);
        check.due("the best all the same", x.best(60), 1);
        check.due("matched all the same", x.matched(30), 54 * 30);
        check.due("a voice all the same", x.voiceFor(0, 1, 54 * 60, 60), 9);
        check.due("a kind all the same", x.kindFor(2, 0, 1), 4);
    }

    private static void givesBeyond() {
        for (int n : NOT_TO_SIXTY) {
            edges.refused("gives in " + n, Edges::some, x -> x.gives(0, 1, n), Check.BEYOND);
        }
        for (int[] two : NO_TWO) {
            edges.refused("gives of " + two[0] + ", " + two[1], Edges::some, x -> x.gives(two[0], two[1], 1),
                    Check.BEYOND);
        }
    }

    // Promise 18: The two who would give most in n (0 to 60) MINUTES, the lesser number told first. BEYOND. NONE.

    private static void bestOfTwoAndOfEight() {
        edges.told("two", () -> Check.square("deaf;deaf"), x -> x.best(60), 1);
        String eight = "deaf;deaf;deaf;deaf;deaf;deaf;deaf;deaf voice 9 thinks 1";
        edges.told("the last one with the least", () -> Check.square(eight), x -> x.best(60), 7);
        edges.told("in 0", () -> Check.square(eight), x -> x.best(0), 1);
        edges.told("the last two", () -> Check.square("deaf;deaf;deaf;deaf;deaf;deaf;deaf voice 9;deaf thinks 1"),
                x -> x.best(1), 55);
        edges.told("of two equal pairs the lesser", () -> Check.square("deaf;deaf thinks 1;deaf;deaf thinks 1"),
                x -> x.best(1), 1);
        edges.told("of two equal pairs the lesser", () -> Check.square("deaf;deaf;deaf thinks 1;deaf thinks 1"),
                x -> x.best(1), 2);
    }

    private static void bestBeyond() {
        for (int n : NOT_TO_SIXTY) {
            edges.refused("best in " + n, Edges::some, x -> x.best(n), Check.BEYOND);
            edges.refused("BEYOND before NONE", PumpTalk::new, x -> x.best(n), Check.BEYOND);
        }
    }

    private static void bestNone() {
        edges.refused("nobody", PumpTalk::new, x -> x.best(0), Check.NONE);
        edges.refused("one alone", () -> Check.square("deaf thinks 1"), x -> x.best(60), Check.NONE);
    }

    // Promise 19: The one with whom one would give most in n (0 to 60) MINUTES. BEYOND. NONE: there is no other one.

    private static void partnerFirstAndLast() {
        edges.told("of two", () -> Check.square("deaf;deaf"), x -> x.partner(0, 60), 1);
        edges.told("of two", () -> Check.square("deaf;deaf"), x -> x.partner(1, 0), 0);
        String eight = "deaf;deaf;deaf;deaf;deaf;deaf;deaf;deaf thinks 1";
        edges.told("the last one", () -> Check.square(eight), x -> x.partner(0, 60), 7);
        edges.told("of equal ones the least", () -> Check.square(eight), x -> x.partner(7, 60), 0);
        edges.told("in 0 the least", () -> Check.square(eight), x -> x.partner(0, 0), 1);
        edges.told("not itself", () -> Check.square(eight), x -> x.partner(7, 0), 0);
    }

    private static void partnerBeyond() {
        for (int n : NOT_TO_SIXTY) {
            edges.refused("partner in " + n, Edges::some, x -> x.partner(0, n), Check.BEYOND);
            edges.refused("BEYOND before NONE", () -> Check.square("deaf"), x -> x.partner(0, n), Check.BEYOND);
        }
        for (int person : new int[] {MIN, -1, 4, MAX}) {
            edges.refused("partner of " + person, Edges::some, x -> x.partner(person, 1), Check.BEYOND);
        }
        edges.refused("partner of nobody", PumpTalk::new, x -> x.partner(0, 0), Check.BEYOND);
    }

    private static void partnerNone() {
        edges.refused("one alone", () -> Check.square("deaf thinks 1"), x -> x.partner(0, 0), Check.NONE);
        edges.refused("one alone", () -> Check.square("deaf thinks 1"), x -> x.partner(0, 60), Check.NONE);
    }

    // Promise 20: The SUBJECT from which on two would give most in n (0 to 60) MINUTES. BEYOND.

    private static void subjectForFirstAndLast() {
        edges.told("the first", () -> Check.square("lawyer thinks 3 2 2 2 2 2;deaf"), x -> x.subjectFor(0, 1, 1), 0);
        edges.told("the last", () -> Check.square("lawyer thinks 2 2 2 2 2 3;deaf"), x -> x.subjectFor(0, 1, 1), 5);
        edges.told("of equal ones the least", () -> Check.square("lawyer thinks 0 2 -2 2;deaf;on 3"),
                x -> x.subjectFor(0, 1, 1), 1);
        edges.told("in 0 the least", () -> Check.square("lawyer thinks 0 2 -2 2;deaf;on 3"), x -> x.subjectFor(0, 1,
                0), 0);
        // From 5 it takes a minute to come to 0.
        edges.told("round", () -> Check.square("deaf thinks 1;deaf"), x -> x.subjectFor(0, 1, 60), 0);
        edges.told("round", () -> Check.square("wed thinks 2 0 0 0 0 1;deaf"), x -> x.subjectFor(0, 1, 2), 0);
    }

    private static void subjectForBeyond() {
        for (int n : NOT_TO_SIXTY) {
            edges.refused("subjectFor in " + n, Edges::some, x -> x.subjectFor(0, 1, n), Check.BEYOND);
        }
        for (int[] two : NO_TWO) {
            edges.refused("subjectFor of " + two[0] + ", " + two[1], Edges::some, x -> x.subjectFor(two[0], two[1], 1),
                    Check.BEYOND);
        }
    }

    // Promise 21: people are in pairs (each in one at most) such that what these give in n (0 to 30) MINUTES is most.

    private static void matchedOfFewAndMany() {
        edges.told("nobody", PumpTalk::new, x -> x.matched(30), 0);
        edges.told("one alone", () -> Check.square("deaf thinks 1"), x -> x.matched(30), 0);
        edges.told("two", () -> Check.square("deaf thinks 1;deaf"), x -> x.matched(30), 300);
        edges.told("two in 0", () -> Check.square("deaf thinks 1;deaf"), x -> x.matched(0), 0);
        edges.told("three: one pair", () -> Check.square("deaf thinks 1;deaf thinks 2;deaf"), x -> x.matched(1), 10);
        edges.told("eight: four pairs", () -> Check.square("deaf thinks 1;deaf thinks 2;deaf thinks 3;deaf thinks 4;"
                + "deaf;deaf thinks 6;deaf thinks 7;deaf thinks 8"), x -> x.matched(30), 4 * 300);
        // 0 is in one pair at most, though each pair with 0 would give.
        edges.told("one whom all would have", () -> Check.square("deaf thinks 1;deaf;deaf;deaf;deaf;deaf;deaf;deaf"),
                x -> x.matched(1), 10);
    }

    private static void matchedBeyond() {
        for (int n : NOT_TO_THIRTY) {
            edges.refused("matched in " + n, Edges::some, x -> x.matched(n), Check.BEYOND);
            edges.refused("matched in " + n + " of nobody", PumpTalk::new, x -> x.matched(n), Check.BEYOND);
        }
    }

    // Promise 22: With whom one is MATCHED then (-1: with nobody); of several such ways the least one, nobody last.

    private static void matchOfWithNobody() {
        edges.told("one alone", () -> Check.square("deaf thinks 1"), x -> x.matchOf(0, 30), -1);
        edges.told("the third", () -> Check.square("deaf;deaf;deaf"), x -> x.matchOf(2, 30), -1);
        // 1 and 2 give 16, with 0 each gives less: 0 stays alone since it must.
        Edges.Made must = () -> Check.square("deaf voice 0;deaf thinks 1;deaf voice 9");
        edges.told("0 must stay alone", must, x -> x.matchOf(0, 1), -1);
        edges.told("1 with 2", must, x -> x.matchOf(1, 1), 2);
        edges.told("2 with 1", must, x -> x.matchOf(2, 1), 1);
        // That 0 and 3 agree, and so give nothing, is no reason to stay alone.
        Edges.Made rather = () -> Check.square("deaf;deaf thinks 1;deaf voice 9;deaf");
        edges.told("0 with 3", rather, x -> x.matchOf(0, 1), 3);
        edges.told("3 with 0", rather, x -> x.matchOf(3, 1), 0);
        edges.told("1 with 2", rather, x -> x.matchOf(1, 1), 2);
    }

    private static void matchOfTheLeast() {
        // All give the same, none: 0 and 1, 2 and 3, 4 and 5, 6 and 7.
        for (int person = 0; person < 8; person++) {
            int one = person;
            edges.told("match of " + person + " in 0", Edges::full, x -> x.matchOf(one, 0), person ^ 1);
        }
        // 0 and 1 agree, and 2, 3, 4 do: 0 takes the least of these, then 1 the least that is left.
        int[] mates = {2, 3, 0, 1, -1};
        for (int person = 0; person < 5; person++) {
            int one = person;
            edges.told("match of " + person, () -> Check.square("deaf thinks 1;deaf thinks 1;deaf;deaf;deaf"),
                    x -> x.matchOf(one, 30), mates[person]);
        }
    }

    private static void matchOfBeyond() {
        for (int n : NOT_TO_THIRTY) {
            edges.refused("matchOf in " + n, Edges::some, x -> x.matchOf(0, n), Check.BEYOND);
        }
        for (int person : new int[] {MIN, -1, 4, MAX}) {
            edges.refused("matchOf of " + person, Edges::some, x -> x.matchOf(person, 1), Check.BEYOND);
        }
        edges.refused("matchOf of the 9th", Edges::full, x -> x.matchOf(8, 1), Check.BEYOND);
        edges.refused("matchOf of nobody", PumpTalk::new, x -> x.matchOf(0, 0), Check.BEYOND);
    }

    // Promise 23: The KIND of which one must be so that it gives most with another one in n (0 to 60) MINUTES. BEYOND.

    private static void kindForEdges() {
        edges.told("in 0 the least", () -> Check.square("friend thinks 1;deaf"), x -> x.kindFor(0, 1, 0), 0);
        edges.told("who agree, the least", () -> Check.square("friend;deaf"), x -> x.kindFor(0, 1, 60), 0);
        edges.told("at minute 0", () -> Check.square("friend thinks 1;deaf"), x -> x.kindFor(0, 1, 1), 5);
        // In 60 minutes one who stays at 1 gives 300 of its own, one who goes off far more.
        edges.told("in 60", () -> Check.square("friend thinks 1;deaf"), x -> x.kindFor(0, 1, 60), 2);
        // At minute 1, 2 apart, without voice: a deaf one, a lawyer and a trinity give 2 each.
        edges.told("of three equal ones the least", () -> {
            PumpTalk x = Check.square("person voice 0 thinks 2;deaf");
            x.go(1);
            return x;
        }, x -> x.kindFor(0, 1, 1), 1);
        edges.told("a master", () -> {
            PumpTalk x = Check.square("person voice 0 thinks -8;wed voice 5 thinks 9");
            x.go(4);
            return x;
        }, x -> x.kindFor(0, 1, 5), 3);
        edges.told("a deaf one", () -> {
            PumpTalk x = Check.square("person voice 0 thinks 2;wed voice 0 thinks 1");
            x.go(2);
            return x;
        }, x -> x.kindFor(0, 1, 1), 1);
    }

    private static void kindForBeyond() {
        for (int n : NOT_TO_SIXTY) {
            edges.refused("kindFor in " + n, Edges::some, x -> x.kindFor(0, 1, n), Check.BEYOND);
        }
        for (int[] two : NO_TWO) {
            edges.refused("kindFor of " + two[0] + ", " + two[1], Edges::some, x -> x.kindFor(two[0], two[1], 1),
                    Check.BEYOND);
        }
    }

    // Promise 24: The VIEW (-9 to 9) on a SUBJECT that one must have for that; of several the least. BEYOND.

    private static void viewForEdges() {
        edges.told("the least", () -> Check.square("lawyer;deaf thinks 1"), x -> x.viewFor(0, 1, 0, 1), -9);
        edges.told("the most", () -> Check.square("lawyer;deaf thinks -1"), x -> x.viewFor(0, 1, 0, 1), 9);
        edges.told("of both the least", () -> Check.square("lawyer;deaf"), x -> x.viewFor(0, 1, 0, 1), -9);
        edges.told("in 0", () -> Check.square("lawyer;deaf thinks -1"), x -> x.viewFor(0, 1, 0, 0), -9);
        edges.told("on the last subject", () -> Check.square("lawyer;deaf thinks 0 0 0 0 0 -1;on 5"),
                x -> x.viewFor(0, 1, 5, 1), 9);
        edges.told("on a subject that isn't reached", () -> Check.square("lawyer;deaf thinks 0 -1"),
                x -> x.viewFor(0, 1, 1, 1), -9);
        edges.told("on the subject behind", () -> Check.square("lawyer;deaf thinks 0 -1"), x -> x.viewFor(0, 1, 1, 2),
                9);
        edges.told("but the least one, with whom it agrees", () -> Check.square("deaf;deaf thinks -9"),
                x -> x.viewFor(0, 1, 0, 1), -8);
    }

    private static void viewForBeyond() {
        for (int n : NOT_TO_SIXTY) {
            edges.refused("viewFor in " + n, Edges::some, x -> x.viewFor(0, 1, 0, n), Check.BEYOND);
        }
        for (int[] two : NO_TWO) {
            edges.refused("viewFor of " + two[0] + ", " + two[1], Edges::some, x -> x.viewFor(two[0], two[1], 0, 1),
                    Check.BEYOND);
        }
        for (int subject : new int[] {MIN, -1, 6, MAX}) {
            edges.refused("viewFor on " + subject, Edges::some, x -> x.viewFor(0, 1, subject, 1), Check.BEYOND);
        }
    }

    // Promise 25: The least VOICE of one with which two give v (0 to 9999) or more in n (0 to 60) MINUTES. BEYOND.
    // NONE.

    private static void voiceForEdges() {
        // Each minute gives the voice and 2 of the one, 11 of the other.
        Edges.Made two = () -> Check.square("deaf voice 5 thinks 1;deaf voice 9");
        edges.told("none asked", two, x -> x.voiceFor(0, 1, 0, 60), 0);
        edges.told("none asked in 0", two, x -> x.voiceFor(0, 1, 0, 0), 0);
        edges.told("as much as voice 0 gives", two, x -> x.voiceFor(0, 1, 13 * 60, 60), 0);
        edges.told("one more", two, x -> x.voiceFor(0, 1, 13 * 60 + 1, 60), 1);
        edges.told("as much as voice 9 gives", two, x -> x.voiceFor(0, 1, 22 * 60, 60), 9);
        edges.told("one more than of 8", two, x -> x.voiceFor(0, 1, 21 * 60 + 1, 60), 9);
        edges.told("as much as of 8", two, x -> x.voiceFor(0, 1, 21 * 60, 60), 8);
        edges.told("of the other one", two, x -> x.voiceFor(1, 0, 7 + 2, 1), 0);
    }

    private static void voiceForBeyond() {
        for (int n : NOT_TO_SIXTY) {
            edges.refused("voiceFor in " + n, Edges::some, x -> x.voiceFor(0, 1, 0, n), Check.BEYOND);
        }
        for (int[] two : NO_TWO) {
            edges.refused("voiceFor of " + two[0] + ", " + two[1], Edges::some, x -> x.voiceFor(two[0], two[1], 0, 1),
                    Check.BEYOND);
        }
        for (int v : new int[] {MIN, -1, 10000, MAX}) {
            edges.refused("voiceFor " + v, Edges::some, x -> x.voiceFor(0, 1, v, 1), Check.BEYOND);
        }
    }

    private static void voiceForNone() {
        Edges.Made two = () -> Check.square("deaf voice 5 thinks 1;deaf voice 9");
        edges.refused("one more than of 9", two, x -> x.voiceFor(0, 1, 22 * 60 + 1, 60), Check.NONE);
        edges.refused("the most", two, x -> x.voiceFor(0, 1, 9999, 60), Check.NONE);
        edges.refused("something in 0", two, x -> x.voiceFor(0, 1, 1, 0), Check.NONE);
    }
}
