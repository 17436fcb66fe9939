/** The edges of promises 1 to 9, each sentence with a test of its own. */
public final class EdgesOfPeopleTest {
    private static final Check check = new Check("EdgesOfPeopleTest");
    private static final Edges edges = new Edges(check);
    private static final int MIN = Integer.MIN_VALUE;
    private static final int MAX = Integer.MAX_VALUE;

    public static void main(String[] args) {
        newAllAsAtFirst();
        newNobody();
        newTapeIsEmpty();
        newNoImage();
        personTheNumber();
        personBeyond();
        personFull();
        ofEachWhat();
        ofBeyond();
        changeToTheEdges();
        changeBeyond();
        replyAtTheEdges();
        replyBeyond();
        apartAtTheEdges();
        apartBeyond();
        pairAllAndNone();
        pairBeyond();
        restSomebodyOrNobody();
        subjectAtTheEdges();
        subjectBeyond();
        check.end();
    }

    // Promise 1: All as at first; nobody; THE TAPE is empty, no image is kept.

    private static void newAllAsAtFirst() {
        PumpTalk x = new PumpTalk();
        check.due("minute", x.now(0), 0);
        check.due("water", x.now(1), 0);
        check.due("subject", x.now(2), 0);
        check.due("nobody at the handle", x.now(3), -1);
        check.due("no subjects", x.now(4), 0);
        check.due("no voices", x.now(5), 0);
        check.due("z", x.count(6), 1);
        check.due("no spots", x.count(7), 0);
        for (int which = -1; which <= 6; which++) {
            check.due("status(" + which + ")", x.status(which), 0);
        }
        for (int s = 0; s <= 3; s++) {
            check.due("sheet " + s + " is missing", x.judge(s), Check.MISSING);
        }
        for (int spot = 0; spot <= 9; spot++) {
            check.due("spot " + spot + " holds nothing", x.as(spot, 0), Check.MISSING);
        }
    }

    private static void newNobody() {
        PumpTalk x = new PumpTalk();
        check.due("nobody", x.count(1), 0);
        check.due("0 isn't there", x.of(0, 0), Check.BEYOND);
        check.due("nobody to rest", x.rest(), 0);
    }

    private static void newTapeIsEmpty() {
        check.due("count(5)", new PumpTalk().count(5), 0);
        check.due("wipe", new PumpTalk().wipe(), 0);
        check.due("an empty text ends too early", new PumpTalk().text(), -1);
    }

    private static void newNoImage() {
        check.due("tear", new PumpTalk().tear(), 0);
        check.due("undo", new PumpTalk().undo(), Check.NONE);
    }

    // Promise 2: A new one: the number. BEYOND. FULL.

    private static void personTheNumber() {
        PumpTalk x = new PumpTalk();
        check.due("the least kind", x.person(0), 0);
        check.due("the greatest kind", x.person(6), 1);
        for (int what = 1; what <= 8; what++) {
            check.due("of(1, " + what + ")", x.of(1, what), what == 1 ? 3 : 0);
        }
        check.due("voices", x.now(5), 6);
        x.person(-1);
        check.due("a refused one has no number", x.person(3), 2);
    }

    private static void personBeyond() {
        for (int kind : new int[] {MIN, -1, 7, MAX}) {
            edges.refused("person(" + kind + ")", Edges::some, x -> x.person(kind), Check.BEYOND);
            edges.refused("BEYOND before FULL", Edges::full, x -> x.person(kind), Check.BEYOND);
        }
    }

    private static void personFull() {
        edges.refused("a 9th", Edges::full, x -> x.person(0), Check.FULL);
        edges.refused("a 9th", Edges::full, x -> x.person(6), Check.FULL);
        PumpTalk x = Check.square("wed;wed;wed;wed;wed;wed;wed");
        check.due("the 8th", x.person(5), 7);
        check.due("full", x.person(5), Check.FULL);
    }

    // Promise 3: Of one: what 0 KIND, 1 VOICE, 2 to 7 VIEW on SUBJECT 0 to 5, 8 whether it is AT THE HANDLE. BEYOND.

    private static void ofEachWhat() {
        PumpTalk x = Check.square("trinity voice 0 thinks 9 -9 0 1 -1 8;deaf;friend voice 9;pair 1 0");
        int[] due = {4, 0, 9, -9, 0, 1, -1, 8, 1};
        for (int what = 0; what <= 8; what++) {
            int asked = what;
            edges.told("of(0, " + what + ")", Edges::some, y -> y.of(3, asked), new int[] {5, 3, 0, 0, 0, 0, 0, 0,
                    0}[what]);
            check.due("of(0, " + what + ")", x.of(0, what), due[what]);
        }
        check.due("the first told is at the handle", x.of(1, 8), 1);
        check.due("the third isn't", x.of(2, 8), 0);
        x.rest();
        check.due("at rest", x.of(0, 8), 0);
        check.due("at rest", x.of(1, 8), 0);
    }

    private static void ofBeyond() {
        int[][] beyond = {{-1, 0}, {4, 0}, {8, 0}, {MIN, 0}, {MAX, 0}, {0, -1}, {0, 9}, {0, MIN}, {0, MAX}, {4, 9}};
        for (int[] c : beyond) {
            edges.refused("of(" + c[0] + ", " + c[1] + ")", Edges::some, x -> x.of(c[0], c[1]), Check.BEYOND);
        }
        edges.refused("of the 9th", Edges::full, x -> x.of(8, 0), Check.BEYOND);
        edges.refused("of nobody", PumpTalk::new, x -> x.of(0, 8), Check.BEYOND);
        edges.refused("whether nobody is at the handle", PumpTalk::new, x -> x.of(-1, 8), Check.BEYOND);
    }

    // Promise 4: KIND (what 0), VOICE (1), VIEW (2 to 7) of one becomes v: what it was. BEYOND.

    private static void changeToTheEdges() {
        PumpTalk x = Check.square("master;lawyer voice 5");
        for (int what = 0; what <= 7; what++) {
            int least = what < 2 ? 0 : -9;
            int most = what == 0 ? 6 : 9;
            int was = new int[] {2, 5, 0, 0, 0, 0, 0, 0}[what];
            check.due("to the least", x.change(1, what, least), was);
            check.due("it is so", x.of(1, what), least);
            check.due("to the most", x.change(1, what, most), least);
            check.due("it is so", x.of(1, what), most);
            check.due("to the same", x.change(1, what, most), most);
        }
        int[] other = {3, 3, 0, 0, 0, 0, 0, 0};
        for (int what = 0; what <= 7; what++) {
            check.due("the other one's " + what, x.of(0, what), other[what]);
        }
        check.due("no finding", x.status(-1), 0);
    }

    private static void changeBeyond() {
        int[][] beyond = {{0, 0, -1}, {0, 0, 7}, {0, 1, -1}, {0, 1, 10}, {0, 2, -10}, {0, 2, 10}, {0, 7, -10}, {0, 7,
            10},
            {0, 8, 0}, {0, 8, 1}, {0, -1, 0}, {4, 0, 0}, {-1, 0, 0}, {MIN, MIN, MIN}, {0, 5, MIN}, {0, 1, MAX}};
        for (int[] c : beyond) {
            edges.refused("change(" + c[0] + ", " + c[1] + ", " + c[2] + ")", Edges::some,
                    x -> x.change(c[0], c[1], c[2]), Check.BEYOND);
        }
    }

    // Promise 5: What one MOVES (what 0), how many STROKES it gives (1), APART by g (1 to 18), now. BEYOND.

    private static void replyAtTheEdges() {
        PumpTalk x = Check.square("person;deaf;lawyer;master;trinity;wed;friend");
        int[] movesLeast = {1, 0, -1, -1, -1, 1, 0};
        int[] movesMost = {1, 0, -1, -1, 0, 18, 9};
        int[] strokesLeast = {3, 5, 4, 3, 6, 13, 2};
        int[] strokesMost = {3, 5, 21, 20, 40, 13, 2};
        for (int kind = 0; kind <= 6; kind++) {
            check.due("moves of kind " + kind + ", g 1", x.reply(kind, 1, 0), movesLeast[kind]);
            check.due("moves of kind " + kind + ", g 18", x.reply(kind, 18, 0), movesMost[kind]);
            check.due("strokes of kind " + kind + ", g 1", x.reply(kind, 1, 1), strokesLeast[kind]);
            check.due("strokes of kind " + kind + ", g 18", x.reply(kind, 18, 1), strokesMost[kind]);
        }
        x.go(1);
        int[] movesThen = {1, 0, -1, 1, 2, 18, 9};
        int[] strokesThen = {3, 5, 21, 20, 40, 3, 2};
        for (int kind = 0; kind <= 6; kind++) {
            check.due("now, at minute 1", x.reply(kind, 18, 0), movesThen[kind]);
            check.due("now, at minute 1", x.reply(kind, 18, 1), strokesThen[kind]);
        }
    }

    private static void replyBeyond() {
        int[][] beyond = {{0, 0, 0}, {0, 0, 1}, {0, 19, 0}, {0, 19, 1}, {0, -1, 1}, {0, 1, -1}, {0, 1, 2}, {4, 1, 0},
            {-1, 1, 0}, {0, MIN, 0}, {0, MAX, 1}, {MAX, 1, 0}, {0, 1, MAX}};
        for (int[] c : beyond) {
            edges.refused("reply(" + c[0] + ", " + c[1] + ", " + c[2] + ")", Edges::some,
                    x -> x.reply(c[0], c[1], c[2]), Check.BEYOND);
        }
    }

    // Promise 6: By how much the VIEWS of two are APART on a SUBJECT. BEYOND.

    private static void apartAtTheEdges() {
        PumpTalk x = Check.square("deaf thinks 9 -9 0 0 0 9;deaf thinks -9 9 0 0 0 8");
        check.due("the most", x.apart(0, 1, 0), 18);
        check.due("the most", x.apart(0, 1, 1), 18);
        check.due("the most", x.apart(1, 0, 1), 18);
        check.due("none", x.apart(0, 1, 2), 0);
        check.due("on the last subject", x.apart(1, 0, 5), 1);
        check.due("one and the same", x.apart(0, 0, 0), 0);
        check.due("no finding", x.status(-1), 0);
    }

    private static void apartBeyond() {
        int[][] beyond = {{0, 1, -1}, {0, 1, 6}, {0, 4, 0}, {4, 0, 0}, {-1, 0, 0}, {0, -1, 0}, {MIN, MAX, 0}, {0, 0,
            MIN},
            {0, 0, MAX}};
        for (int[] c : beyond) {
            edges.refused("apart(" + c[0] + ", " + c[1] + ", " + c[2] + ")", Edges::some,
                    x -> x.apart(c[0], c[1], c[2]), Check.BEYOND);
        }
    }

    // Promise 7: Two are AT THE HANDLE: on how many SUBJECTS they don't AGREE. BEYOND: also one and the same.

    private static void pairAllAndNone() {
        PumpTalk x = Check.square("deaf thinks 1 1 1 1 1 1;deaf;deaf;deaf thinks 0 0 0 0 0 -1;deaf;deaf;deaf;deaf");
        check.due("on all", x.pair(0, 1), 6);
        check.due("on none", x.pair(1, 2), 0);
        check.due("on the last", x.pair(3, 2), 1);
        check.due("the first and the last one", x.pair(7, 0), 6);
        check.due("told so", x.now(3), 56);
        check.due("the same two anew", x.pair(0, 7), 6);
        check.due("told so", x.now(3), 7);
        check.due("no time goes by", x.now(0), 0);
    }

    private static void pairBeyond() {
        int[][] beyond = {{0, 0}, {3, 3}, {0, 4}, {4, 0}, {4, 4}, {-1, 0}, {0, -1}, {-1, -1}, {MIN, 0}, {0, MAX}};
        for (int[] c : beyond) {
            edges.refused("pair(" + c[0] + ", " + c[1] + ")", Edges::some, x -> x.pair(c[0], c[1]), Check.BEYOND);
        }
        edges.refused("one alone", () -> Check.square("deaf"), x -> x.pair(0, 0), Check.BEYOND);
        edges.refused("nobody", PumpTalk::new, x -> x.pair(0, 1), Check.BEYOND);
    }

    // Promise 8: Nobody is AT THE HANDLE: 1 if somebody was, else 0.

    private static void restSomebodyOrNobody() {
        PumpTalk x = Check.square("deaf thinks 1;deaf;pair 0 1;on 3");
        check.due("somebody was", x.rest(), 1);
        check.due("nobody is", x.now(3), -1);
        check.due("the subject stays", x.now(2), 3);
        check.due("people stay", x.count(1), 2);
        edges.told("nobody was", () -> Check.square("deaf thinks 1;deaf"), PumpTalk::rest, 0);
    }

    // Promise 9: They are on a SUBJECT: on which they were. BEYOND.

    private static void subjectAtTheEdges() {
        PumpTalk x = new PumpTalk();
        check.due("at first", x.subject(0), 0);
        check.due("to the last", x.subject(5), 0);
        check.due("it is so", x.now(2), 5);
        check.due("from the last", x.subject(0), 5);
        check.due("it is so", x.count(2), 0);
    }

    private static void subjectBeyond() {
        for (int subject : new int[] {MIN, -1, 6, MAX}) {
            edges.refused("subject(" + subject + ")", Edges::some, x -> x.subject(subject), Check.BEYOND);
        }
    }
}
