/** Promises 35 to 41: spots and sheets. */
public final class SheetsTest {
    private static final Check check = new Check("SheetsTest");

    public static void main(String[] args) {
        spots();
        sheet();
        write();
        copy();
        load();
        judge();
        check.end();
    }

    private static void spots() {
        PumpTalk x = Check.square("person;deaf;lawyer;master;trinity;wed;friend");
        check.due("no such spot", x.hold(10, 0), Check.BEYOND);
        check.due("no such spot", x.hold(-1, 0), Check.BEYOND);
        check.due("no such one", x.hold(0, 7), Check.BEYOND);
        check.due("no such one", x.hold(0, -2), Check.BEYOND);
        check.due("nothing held", x.as(9, 0), Check.MISSING);
        check.due("nothing held", x.count(7), 0);
        // Bits of the kinds as which one of each kind can be told.
        int[] sets = {1, 1 + 2, 1 + 4, 1 + 4 + 8, 1 + 4 + 8 + 16, 1 + 32, 1 + 2 + 64};
        for (int kind = 0; kind < 7; kind++) {
            check.due("hold", x.hold(9 - kind, kind), 1);
            for (int top = 0; top < 7; top++) {
                int due = (sets[kind] >> top & 1) == 1 ? kind : Check.KIND;
                check.due(kind + " as " + top, x.as(9 - kind, top), due);
            }
        }
        check.due("held", x.count(7), 7);
        check.due("no such kind", x.as(9, 7), Check.BEYOND);
        check.due("no such kind", x.as(9, -1), Check.BEYOND);
        check.due("no such spot", x.as(10, 0), Check.BEYOND);
        check.due("no such spot", x.as(-1, 0), Check.BEYOND);
        check.due("beyond before missing", x.as(0, 7), Check.BEYOND);
        x.change(6, 0, 2);
        check.due("a friend no more", x.as(3, 6), Check.KIND);
        check.due("a lawyer now", x.as(3, 2), 6);
        check.due("hold nothing", x.hold(3, -1), 1);
        check.due("nothing held", x.as(3, 2), Check.MISSING);
        check.due("held", x.count(7), 6);
    }

    private static void sheet() {
        PumpTalk x = new PumpTalk();
        check.due("sheet", x.sheet(0, 8, 40), 40);
        check.due("sheet", x.sheet(3, 16, 0), 0);
        check.due("sheet", x.sheet(1, 32, 1), 1);
        check.due("no such sheet", x.sheet(4, 8, 1), Check.BEYOND);
        check.due("no such sheet", x.sheet(-1, 8, -1), Check.BEYOND);
        check.due("other bits", x.sheet(0, 24, -1), Check.BEYOND);
        check.due("other bits", x.sheet(0, -8, 1), Check.BEYOND);
        check.due("below 0", x.sheet(0, 8, -1), Check.SIZE);
        check.due("below 0", x.sheet(0, 0, Integer.MIN_VALUE), Check.SIZE);
        check.due("above 40", x.sheet(0, 8, 41), Check.BEYOND);
        check.due("above 40", x.sheet(0, 0, 41), Check.BEYOND);
        check.due("still there", x.write(0, 39, 1), 1);
        check.due("empty, not missing", x.judge(3), 0);
        check.due("anew", x.sheet(0, 8, 40), 40);
        x.sheet(1, 8, 1);
        x.write(1, 0, 7);
        x.copy(0, 39, 1, 0, 1);
        x.person(0);
        check.due("number 39 is 0 again", x.judge(1), 0);
        x.write(1, 0, 7);
        x.sheet(1, 8, 1);
        check.due("number 0 is 0 again", x.judge(1), 0);
        check.due("missing", x.sheet(0, 0, 40), 0);
        check.due("missing", x.write(0, 0, 0), Check.MISSING);
    }

    private static void write() {
        PumpTalk x = Check.square("deaf;deaf");
        int[] bits = {8, 16, 32};
        int[] written = {0x12345678 & ~255 | 255, 0x12340000 | 0xfff7, -9};
        int[] due = {-1, -9, -9};
        for (int i = 0; i < bits.length; i++) {
            x.sheet(0, bits[i], 1);
            check.due("write", x.write(0, 0, written[i]), 1);
            check.due("load", x.load(0), 1);
            check.due("with its sign", x.of(0, 2), due[i]);
        }
        x.sheet(0, 8, 1);
        x.write(0, 0, 256 + 7);
        check.due("the lowest bits", x.load(0) + x.of(0, 2), 8);
        x.sheet(0, 16, 2);
        x.write(0, 0, 65536 + 3);
        x.write(0, 1, 32768);
        check.due("ends at -32768", x.load(0), 1);
        check.due("the lowest bits", x.of(0, 2), 3);
        check.due("no such sheet", x.write(4, 0, 0), Check.BEYOND);
        check.due("no such sheet", x.write(-1, 0, 0), Check.BEYOND);
        check.due("missing", x.write(1, -1, 0), Check.MISSING);
        check.due("no such number", x.write(0, 2, 0), Check.BEYOND);
        check.due("no such number", x.write(0, -1, 0), Check.BEYOND);
    }

    private static void tell(PumpTalk x, int s, int bits, int... numbers) {
        x.sheet(s, bits, numbers.length);
        for (int i = 0; i < numbers.length; i++) {
            x.write(s, i, numbers[i]);
        }
    }

    /** The sheet's numbers are looked at as views of as many people. */
    private static void dueNumbers(PumpTalk x, int s, int... numbers) {
        check.due("numbers that can be views", x.load(s), numbers.length);
        for (int i = 0; i < numbers.length; i++) {
            check.due("number " + i, x.of(i, 2 + x.now(2)), numbers[i]);
        }
    }

    private static void copy() {
        PumpTalk x = Check.square("deaf;deaf;deaf;deaf;deaf;deaf");
        tell(x, 0, 8, 1, 2, 3, 4, 5, 6);
        check.due("over itself, up", x.copy(0, 0, 0, 2, 4), 4);
        dueNumbers(x, 0, 1, 2, 1, 2, 3, 4);
        tell(x, 0, 8, 1, 2, 3, 4, 5, 6);
        check.due("over itself, down", x.copy(0, 2, 0, 0, 4), 4);
        dueNumbers(x, 0, 3, 4, 5, 6, 5, 6);
        tell(x, 1, 8, 9, 8, 7);
        check.due("to another one", x.copy(0, 1, 1, 0, 2), 2);
        dueNumbers(x, 1, 4, 5, 7);
        check.due("none, at the ends", x.copy(0, 6, 1, 3, 0), 0);
        check.due("all", x.copy(1, 0, 0, 3, 3), 3);
        dueNumbers(x, 0, 3, 4, 5, 4, 5, 7);
        int[][] beyond = {{4, 0, 1, 0, 0}, {0, 0, -1, 0, 0}, {2, 0, 4, 0, 0}, {0, 0, 1, 0, 4}, {0, 4, 1, 0, 3},
            {0, 0, 1, 1, 3}, {0, -1, 1, 0, 1}, {0, 0, 1, -1, 1}, {0, 0, 1, 0, -1}, {0, 1, 1, 1, Integer.MAX_VALUE},
            {0, Integer.MAX_VALUE, 1, 0, 1}, {0, 0, 1, Integer.MAX_VALUE, 2}, {0, 7, 1, 0, 0}, {0, 0, 1, 4, 0}};
        for (int[] c : beyond) {
            check.due("copy beyond", x.copy(c[0], c[1], c[2], c[3], c[4]), Check.BEYOND);
        }
        tell(x, 2, 16, 1);
        check.due("missing before kind", x.copy(2, 0, 3, 0, 9), Check.MISSING);
        check.due("missing", x.copy(3, -1, 0, 0, 9), Check.MISSING);
        check.due("kind before beyond", x.copy(2, -1, 0, 0, 9), Check.KIND);
        check.due("nothing changed", x.judge(0), 0);
    }

    private static void load() {
        PumpTalk x = Check.square("deaf;deaf;deaf;on 5");
        tell(x, 0, 16, 9, -9, 0, 4);
        check.due("three people", x.load(0), 3);
        check.due("view", x.of(0, 7), 9);
        check.due("view", x.of(1, 7), -9);
        check.due("another subject", x.of(0, 2), 0);
        tell(x, 0, 16, 1, 10, 2);
        check.due("10 is no view", x.load(0), 1);
        check.due("view", x.of(0, 7), 1);
        check.due("view", x.of(1, 7), -9);
        tell(x, 0, 16, -10);
        check.due("-10 is no view", x.load(0), 0);
        tell(x, 0, 16);
        check.due("an empty one", x.load(0), 0);
        check.due("no such sheet", x.load(4), Check.BEYOND);
        check.due("no such sheet", x.load(-1), Check.BEYOND);
        check.due("missing", x.load(3), Check.MISSING);
    }

    private static void judge() {
        PumpTalk x = Check.square("deaf thinks 0 1;deaf thinks 0 -2;deaf thinks 0 3;on 1");
        tell(x, 2, 8, 1, -2, 3);
        check.due("so", x.judge(2), 0);
        tell(x, 2, 8, 1, -2);
        check.due("so", x.judge(2), 0);
        tell(x, 2, 8, 1, -2, 3, 0);
        check.due("there is no fourth one", x.judge(2), 4);
        tell(x, 2, 8, 1, 2, 4);
        check.due("the first that isn't so", x.judge(2), 2);
        tell(x, 2, 8, 10);
        check.due("no view", x.judge(2), 1);
        x.sheet(2, 8, 0);
        check.due("an empty one", x.judge(2), 0);
        x.subject(0);
        tell(x, 2, 8, 0, 0, 0);
        check.due("on the subject as it is", x.judge(2), 0);
        check.due("no such sheet", x.judge(4), Check.BEYOND);
        check.due("no such sheet", x.judge(-1), Check.BEYOND);
        check.due("missing", x.judge(3), Check.MISSING);
    }
}
