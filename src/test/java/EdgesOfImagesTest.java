/** The edges of promises 42 to 46, each sentence with a test of its own. */
public final class EdgesOfImagesTest {
    private static final Check check = new Check("EdgesOfImagesTest");
    private static final Edges edges = new Edges(check);
    private static final int MIN = Integer.MIN_VALUE;
    private static final int MAX = Integer.MAX_VALUE;

    public static void main(String[] args) {
        imageOfAllButTapeAndSheets();
        imageOfNobodyAndOfEight();
        undoStays();
        undoLatest();
        undoNone();
        tearSomethingOrNothing();
        countEachWhat();
        countBeyond();
        statusOfEachSort();
        statusBeyondCountsFromThenOn();
        statusIsNotUndone();
        check.end();
    }

    /** Many changes of all that an image keeps. */
    private static void changeAll(PumpTalk x) {
        x.rest();
        x.change(0, 0, 6);
        x.change(1, 1, 9);
        x.change(2, 7, -9);
        x.person(1);
        x.pair(1, 0);
        x.hold(2, -1);
        x.hold(5, 0);
        x.quarrels(7);
        x.subject(3);
        x.seed(12345);
    }

    // Promise 42: All but THE TAPE and SHEETS is kept: 1.

    private static void imageOfAllButTapeAndSheets() {
        PumpTalk x = Edges.some();
        PumpTalk twin = Edges.some();
        check.due("image", x.image(), 1);
        twin.image();
        changeAll(x);
        x.undo();
        edges.alike("all is as it was kept", x, twin);
        x = Edges.some();
        x.wipe();
        x.sheet(0, 8, 2);
        x.image();
        Check.feed(x, "on 1");
        x.sheet(0, 16, 4);
        x.sheet(3, 8, 1);
        x.undo();
        check.due("the tape stays", x.wipe(), 4);
        check.due("a sheet stays", x.write(0, 3, 1), 1);
        check.due("a sheet stays", x.write(3, 0, 1), 1);
    }

    private static void imageOfNobodyAndOfEight() {
        PumpTalk x = new PumpTalk();
        check.due("nobody", x.image(), 1);
        for (int i = 0; i < 8; i++) {
            x.person(i % 7);
        }
        x.hold(0, 7);
        x.pair(6, 7);
        x.go(9);
        check.due("undo", x.undo(), 0);
        edges.alike("nobody again", x, kept());
        x = Edges.full();
        x.image();
        changeAll(x);
        x.undo();
        check.due("eight", x.count(1), 8);
        check.due("a 9th", x.person(0), Check.FULL);
    }

    private static PumpTalk kept() {
        PumpTalk x = new PumpTalk();
        x.image();
        return x;
    }

    // Promise 43: It becomes what was kept latest (which stays): MINUTE. NONE: nothing is kept.

    private static void undoStays() {
        PumpTalk x = Edges.some();
        x.image();
        for (int i = 0; i < 3; i++) {
            changeAll(x);
            check.due("undo " + i, x.undo(), 5);
            check.due("water", x.now(1), x.ahead(0));
            check.due("z", x.count(6), -77);
            check.due("view", x.of(2, 7), 0);
        }
        check.due("undo of nothing new", x.undo(), 5);
    }

    private static void undoLatest() {
        PumpTalk x = Check.square("deaf thinks 1;deaf;pair 0 1");
        x.image();
        x.go(10);
        x.image();
        x.go(10);
        check.due("the latest", x.undo(), 10);
        check.due("water", x.now(1), 100);
        x.go(1);
        x.image();
        x.go(50);
        check.due("the latest", x.undo(), 11);
        check.due("water", x.now(1), 110);
    }

    private static void undoNone() {
        edges.refused("nothing was kept", PumpTalk::new, PumpTalk::undo, Check.NONE);
        edges.refused("it was torn", () -> {
            PumpTalk x = Edges.some();
            x.tear();
            return x;
        }, PumpTalk::undo, Check.NONE);
    }

    // Promise 44: Nothing is kept: 1 if something was, else 0.

    private static void tearSomethingOrNothing() {
        edges.told("nothing was", PumpTalk::new, PumpTalk::tear, 0);
        PumpTalk x = Edges.some();
        int water = x.now(1);
        check.due("something was", x.tear(), 1);
        check.due("all else stays", x.now(1), water);
        check.due("all else stays", x.count(1), 4);
        check.due("nothing is", x.tear(), 0);
        check.due("nothing is", x.undo(), Check.NONE);
        x.image();
        check.due("something is again", x.undo(), 5);
        check.due("something is again", x.tear(), 1);
    }

    // Promise 45: 0 MINUTE to 7 SPOTS that hold something. BEYOND: another what.

    private static void countEachWhat() {
        int[] none = {0, 0, 0, 0, 0, 0, 1, 0};
        int[] full = {3, 8, 1, 0, 25, 118, -77, 10};
        PumpTalk x = Edges.full();
        full[3] = x.now(1);
        for (int what = 0; what <= 7; what++) {
            int asked = what;
            edges.told("count(" + what + ") of a new one", PumpTalk::new, y -> y.count(asked), none[what]);
            edges.told("count(" + what + ") of a full one", Edges::full, y -> y.count(asked), full[what]);
        }
        x.feed(0, 2);
        check.due("as many bytes as can be", x.count(5), 120);
        for (int person = 0; person < 8; person++) {
            x.change(person, 1, 9);
        }
        check.due("as many voices as can be", x.count(4), 72);
        for (int person = 0; person < 8; person++) {
            x.change(person, 1, 0);
        }
        check.due("no voices", x.count(4), 0);
        check.due("no voices", x.now(5), 0);
    }

    private static void countBeyond() {
        for (int what : new int[] {MIN, -1, 8, MAX}) {
            edges.refused("count(" + what + ")", Edges::some, x -> x.count(what), Check.BEYOND);
        }
    }

    // Promise 46: How many acts answered a finding ever: which -1: all, 0 to 6: BEYOND to SIZE. BEYOND: another one.

    private static void statusOfEachSort() {
        PumpTalk x = Edges.full();
        for (int i = 0; i < 2; i++) {
            x.person(7);
        }
        for (int i = 0; i < 3; i++) {
            x.person(0);
        }
        for (int i = 0; i < 4; i++) {
            x.as(4, 5);
        }
        x.tear();
        for (int i = 0; i < 5; i++) {
            x.undo();
        }
        x.sheet(3, 0, 0);
        for (int i = 0; i < 6; i++) {
            x.load(3);
        }
        for (int i = 0; i < 7; i++) {
            x.sheet(3, 0, -1);
        }
        int[] due = {2, 3, 4, 5, 0, 6, 7};
        for (int which = 0; which <= 6; which++) {
            check.due("status(" + which + ")", x.status(which), due[which]);
        }
        check.due("all", x.status(-1), 27);
        check.due("asking is no finding", x.status(-1), 27);
    }

    private static void statusBeyondCountsFromThenOn() {
        for (int which : new int[] {MIN, -2, 7, MAX}) {
            edges.refused("status(" + which + ")", Edges::some, x -> x.status(which), Check.BEYOND);
        }
        PumpTalk x = new PumpTalk();
        check.due("none yet", x.status(-1), 0);
        check.due("another one", x.status(7), Check.BEYOND);
        check.due("counted", x.status(-1), 1);
        check.due("another one", x.status(-2), Check.BEYOND);
        check.due("counted", x.status(0), 2);
    }

    /** undo() takes none back. */
    private static void statusIsNotUndone() {
        PumpTalk x = new PumpTalk();
        x.person(7);
        x.image();
        x.person(7);
        x.load(0);
        x.undo();
        check.due("all", x.status(-1), 3);
        check.due("BEYOND", x.status(0), 2);
        x.tear();
        check.due("nor tear()", x.status(-1), 3);
        x.undo();
        check.due("NONE", x.status(3), 1);
    }
}
