/** Promises 1 to 9: a new object, people, the handle. */
public final class PeopleTest {
    private static final Check check = new Check("PeopleTest");

    public static void main(String[] args) {
        newObject();
        person();
        of();
        change();
        reply();
        apart();
        pair();
        rest();
        subject();
        check.end();
    }

    private static void newObject() {
        PumpTalk x = new PumpTalk();
        for (int what = 0; what <= 7; what++) {
            check.due("new count(" + what + ")", x.count(what), what == 6 ? 1 : 0);
        }
        check.due("new now(3)", x.now(3), -1);
        check.due("new undo", x.undo(), Check.NONE);
        check.due("new tear", x.tear(), 0);
        for (int spot = 0; spot <= 9; spot++) {
            check.due("new as", x.as(spot, 0), Check.MISSING);
        }
        for (int s = 0; s <= 3; s++) {
            check.due("new load", x.load(s), Check.MISSING);
        }
        check.due("new status", x.status(-1), 15);
    }

    private static void person() {
        PumpTalk x = new PumpTalk();
        check.due("person(-1)", x.person(-1), Check.BEYOND);
        check.due("person(7)", x.person(7), Check.BEYOND);
        for (int i = 0; i < 8; i++) {
            check.due("person", x.person(i % 7), i);
            check.due("its kind", x.of(i, 0), i % 7);
            check.due("its voice", x.of(i, 1), 3);
            for (int what = 2; what <= 8; what++) {
                check.due("its view, handle", x.of(i, what), 0);
            }
        }
        check.due("a 9th", x.person(0), Check.FULL);
        check.due("a 9th of no kind", x.person(7), Check.BEYOND);
        check.due("people", x.count(1), 8);
    }

    private static void of() {
        PumpTalk x = Check.square("lawyer voice 7 thinks 1 -2 3 -4 5 -6;wed;wed;pair 2 0");
        int[] due = {2, 7, 1, -2, 3, -4, 5, -6, 1};
        for (int what = 0; what < due.length; what++) {
            check.due("of(0, " + what + ")", x.of(0, what), due[what]);
        }
        check.due("not at the handle", x.of(1, 8), 0);
        check.due("at the handle", x.of(2, 8), 1);
        check.due("of(0, 9)", x.of(0, 9), Check.BEYOND);
        check.due("of(0, -1)", x.of(0, -1), Check.BEYOND);
        check.due("of(3, 0)", x.of(3, 0), Check.BEYOND);
        check.due("of(-1, 8)", x.of(-1, 8), Check.BEYOND);
    }

    private static void change() {
        PumpTalk x = Check.square("deaf;wed");
        check.due("kind was", x.change(0, 0, 6), 1);
        check.due("kind was", x.change(0, 0, 0), 6);
        check.due("voice was", x.change(1, 1, 9), 3);
        check.due("voice was", x.change(1, 1, 0), 9);
        for (int what = 2; what <= 7; what++) {
            check.due("view was", x.change(1, what, 9), 0);
            check.due("view was", x.change(1, what, -9), 9);
            check.due("view is", x.of(1, what), -9);
            check.due("the other one's", x.of(0, what), 0);
        }
        int[][] beyond = {{0, 0, 7}, {0, 0, -1}, {0, 1, 10}, {0, 1, -1}, {0, 2, 10}, {0, 7, -10},
            {0, 8, 0}, {0, -1, 0}, {2, 0, 0}, {-1, 0, 0}};
        for (int[] c : beyond) {
            check.due("change beyond", x.change(c[0], c[1], c[2]), Check.BEYOND);
        }
        check.due("nothing changed", x.of(0, 0) + x.of(0, 1) + x.of(0, 2), 3);
    }

    /** Moves and strokes at minutes 0, 1 and 7, voice 4, for g of 1, 5, 6 and 18. */
    private static void reply() {
        int[] gs = {1, 5, 6, 18};
        int[][] movesEven = {{1, 1, 1, 1}, {0, 0, 0, 0}, {-1, -1, -1, -1}, {-1, -1, -1, -1},
            {-1, -1, 0, 0}, {1, 5, 6, 18}, {0, 2, 3, 9}};
        int[][] movesOdd = {{1, 1, 1, 1}, {0, 0, 0, 0}, {-1, -1, -1, -1}, {1, 1, 1, 1},
            {1, 1, 2, 2}, {1, 5, 6, 18}, {0, 2, 3, 9}};
        int[][] strokesSeven = {{4, 4, 4, 4}, {6, 6, 6, 6}, {5, 9, 10, 22}, {4, 8, 9, 21},
            {8, 16, 18, 42}, {14, 14, 14, 14}, {3, 3, 3, 3}};
        PumpTalk x = new PumpTalk();
        for (int kind = 0; kind < 7; kind++) {
            x.person(kind);
            x.change(kind, 1, 4);
        }
        for (int minute = 0; minute <= 14; minute++) {
            for (int kind = 0; kind < 7; kind++) {
                for (int i = 0; i < gs.length; i++) {
                    int[][] moves = minute % 2 == 0 ? movesEven : movesOdd;
                    int strokes = kind == 5 && minute % 7 != 0 ? 4 : strokesSeven[kind][i];
                    String where = "minute " + minute + ", kind " + kind + ", g " + gs[i];
                    check.due("moves, " + where, x.reply(kind, gs[i], 0), moves[kind][i]);
                    check.due("strokes, " + where, x.reply(kind, gs[i], 1), strokes);
                }
            }
            x.go(1);
        }
        x.change(3, 1, 0);
        x.change(6, 1, 0);
        x.change(1, 1, 9);
        check.due("strokes of a master without voice", x.reply(3, 1, 1), 0);
        check.due("strokes of a friend without voice", x.reply(6, 1, 1), 1);
        check.due("strokes of a loud deaf one", x.reply(1, 1, 1), 11);
        int[][] beyond = {{0, 0, 0}, {0, 19, 0}, {0, -1, 0}, {0, 1, 2}, {0, 1, -1}, {7, 1, 0}, {-1, 1, 0}};
        for (int[] c : beyond) {
            check.due("reply beyond", x.reply(c[0], c[1], c[2]), Check.BEYOND);
        }
    }

    private static void apart() {
        PumpTalk x = Check.square("wed thinks 9 -3 4;wed thinks -9 -3 5");
        check.due("apart", x.apart(0, 1, 0), 18);
        check.due("apart", x.apart(1, 0, 0), 18);
        check.due("apart", x.apart(0, 1, 1), 0);
        check.due("apart", x.apart(0, 1, 2), 1);
        check.due("apart from oneself", x.apart(1, 1, 0), 0);
        check.due("apart", x.apart(0, 1, 6), Check.BEYOND);
        check.due("apart", x.apart(0, 1, -1), Check.BEYOND);
        check.due("apart", x.apart(0, 2, 0), Check.BEYOND);
        check.due("apart", x.apart(-1, 0, 0), Check.BEYOND);
    }

    private static void pair() {
        PumpTalk x = Check.square("wed thinks 9 -3 4 0 0 1;wed thinks -9 -3 5;wed;on 3");
        check.due("pair", x.pair(1, 0), 3);
        check.due("the first told first", x.now(3), 8);
        check.due("pair", x.pair(0, 2), 4);
        check.due("pair", x.now(3), 2);
        check.due("the subject stays", x.now(2), 3);
        check.due("one and the same", x.pair(1, 1), Check.BEYOND);
        check.due("nobody", x.pair(1, 3), Check.BEYOND);
        check.due("nobody", x.pair(-1, 1), Check.BEYOND);
        check.due("still", x.now(3), 2);
    }

    private static void rest() {
        PumpTalk x = Check.square("wed;wed;pair 0 1");
        check.due("rest", x.rest(), 1);
        check.due("rest", x.rest(), 0);
        check.due("nobody", x.now(3), -1);
        check.due("nobody", x.of(0, 8), 0);
    }

    private static void subject() {
        PumpTalk x = new PumpTalk();
        check.due("subject", x.subject(5), 0);
        check.due("subject", x.subject(6), Check.BEYOND);
        check.due("subject", x.subject(-1), Check.BEYOND);
        check.due("subject", x.subject(0), 5);
    }
}
