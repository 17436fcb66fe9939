/** Promises 42 to 46: images, counts, findings. */
public final class ImagesTest {
    private static final Check check = new Check("ImagesTest");

    public static void main(String[] args) {
        undo();
        tear();
        count();
        status();
        check.end();
    }

    private static void undo() {
        PumpTalk x = Check.square("lawyer voice 7 thinks 1 2;deaf;pair 0 1;on 1");
        x.hold(4, 1);
        x.seed(77);
        x.go(3);
        int water = x.now(1);
        int view = x.of(0, 3);
        check.due("image", x.image(), 1);
        for (int round = 0; round < 2; round++) {
            x.go(10);
            x.person(4);
            x.change(2, 1, 9);
            x.change(2, 2, 9);
            x.change(2, 7, 9);
            x.change(0, 0, 3);
            x.change(0, 1, 1);
            x.change(1, 5, 9);
            x.pair(2, 0);
            x.subject(4);
            x.hold(4, -1);
            x.hold(5, 2);
            x.seed(-5);
            x.sheet(1, 8, 5);
            Check.feed(x, "on");
            check.due("undo tells the minute", x.undo(), 3);
            check.due("water", x.now(1), water);
            check.due("people", x.count(1), 2);
            check.due("kind", x.of(0, 0), 2);
            check.due("voice", x.of(0, 1), 7);
            check.due("view", x.of(0, 3), view);
            check.due("view", x.of(1, 5), 0);
            check.due("handle", x.now(3), 1);
            check.due("subject", x.now(2), 1);
            check.due("spots", x.count(7), 1);
            check.due("spot", x.as(4, 1), 1);
            check.due("z", x.count(6), 77);
            check.due("the tape stays", x.wipe(), 2);
            check.due("sheets stay", x.judge(1), 1);
        }
        check.due("a new one is as at first", x.person(0), 2);
        for (int what = 0; what <= 8; what++) {
            check.due("a new one is as at first", x.of(2, what), what == 1 ? 3 : 0);
        }
        x.go(1);
        x.image();
        x.go(1);
        check.due("the latest", x.undo(), 4);
    }

    private static void tear() {
        PumpTalk x = new PumpTalk();
        check.due("tear", x.tear(), 0);
        x.image();
        x.go(1);
        x.image();
        check.due("tear", x.tear(), 1);
        check.due("tear", x.tear(), 0);
        check.due("nothing is kept", x.undo(), Check.NONE);
        check.due("minute", x.now(0), 1);
    }

    private static void count() {
        PumpTalk x = Check.square("deaf voice 2 thinks 0 0 1;deaf voice 6;pair 0 1;on 2");
        x.go(4);
        x.hold(0, 0);
        x.hold(9, 0);
        x.feed(0, 3);
        x.seed(Integer.MIN_VALUE);
        int[] due = {4, 2, 2, 48, 8, 3, Integer.MIN_VALUE, 2};
        for (int what = 0; what < due.length; what++) {
            check.due("count(" + what + ")", x.count(what), due[what]);
        }
        check.due("count(8)", x.count(8), Check.BEYOND);
        check.due("count(-1)", x.count(-1), Check.BEYOND);
    }

    private static void status() {
        PumpTalk x = new PumpTalk();
        x.image();
        x.person(7);
        x.undo();
        check.due("undo takes none back", x.status(0), 1);
        for (int i = 0; i < 9; i++) {
            x.person(0);
        }
        x.hold(0, 0);
        x.as(0, 1);
        x.tear();
        x.undo();
        x.load(0);
        x.as(1, 1);
        x.sheet(0, 8, -1);
        int[] due = {1, 1, 1, 1, 0, 2, 1};
        for (int which = 0; which < due.length; which++) {
            check.due("status(" + which + ")", x.status(which), due[which]);
        }
        check.due("all", x.status(-1), 7);
        check.due("status(7)", x.status(7), Check.BEYOND);
        check.due("counted from then on", x.status(0), 2);
        check.due("status(-2)", x.status(-2), Check.BEYOND);
        check.due("counted from then on", x.status(-1), 9);
        x.odds(11, 0);
        check.due("a long finding counts", x.status(0), 4);
        check.due("a fault is no finding", x.text() + x.status(-1), 9);
    }
}
