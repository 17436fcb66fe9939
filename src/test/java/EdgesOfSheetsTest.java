/** The edges of promises 35 to 41, each sentence with a test of its own. */
public final class EdgesOfSheetsTest {
    private static final Check check = new Check("EdgesOfSheetsTest");
    private static final Edges edges = new Edges(check);
    private static final int MIN = Integer.MIN_VALUE;
    private static final int MAX = Integer.MAX_VALUE;
    private static final int[] NO_SHEETS = {MIN, -1, 4, MAX};

    public static void main(String[] args) {
        holdFirstAndLast();
        holdNothing();
        holdBeyond();
        asOneUnderAnother();
        asFindingsInOrder();
        sheetNoneAndForty();
        sheetAllNought();
        sheetMissing();
        sheetFindingsInOrder();
        writeLowestBits();
        writeFindingsInOrder();
        copyNoneAndAll();
        copyAsTheyAllWere();
        copyFindingsInOrder();
        loadNoneAndAll();
        loadEnds();
        loadFindings();
        judgeSo();
        judgeFirstThatIsnt();
        judgeFindings();
        check.end();
    }

    private static void tell(PumpTalk x, int s, int bits, int... numbers) {
        x.sheet(s, bits, numbers.length);
        for (int i = 0; i < numbers.length; i++) {
            x.write(s, i, numbers[i]);
        }
    }

    // Promise 35: A SPOT holds one of PEOPLE, or nothing (-1): 1. BEYOND.

    private static void holdFirstAndLast() {
        PumpTalk x = Check.square("wed;wed;wed;wed;wed;wed;wed;wed");
        check.due("the first", x.hold(0, 0), 1);
        check.due("the last", x.hold(9, 7), 1);
        check.due("held", x.as(0, 0), 0);
        check.due("held", x.as(9, 5), 7);
        check.due("two", x.count(7), 2);
        check.due("another one", x.hold(9, 6), 1);
        check.due("held", x.as(9, 5), 6);
        check.due("two", x.count(7), 2);
        for (int spot = 0; spot <= 9; spot++) {
            check.due("one in all", x.hold(spot, 3), 1);
        }
        check.due("ten", x.count(7), 10);
    }

    private static void holdNothing() {
        edges.told("nothing as before", Edges::some, x -> x.hold(5, -1), 1);
        edges.told("nothing, of nobody", PumpTalk::new, x -> x.hold(0, -1), 1);
        PumpTalk x = Edges.some();
        check.due("nothing", x.hold(9, -1), 1);
        check.due("nothing", x.as(9, 0), Check.MISSING);
        check.due("others stay", x.count(7), 2);
    }

    private static void holdBeyond() {
        for (int spot : new int[] {MIN, -1, 10, MAX}) {
            edges.refused("spot " + spot, Edges::some, x -> x.hold(spot, 0), Check.BEYOND);
            edges.refused("spot " + spot, Edges::some, x -> x.hold(spot, -1), Check.BEYOND);
        }
        for (int person : new int[] {MIN, -2, 4, MAX}) {
            edges.refused("one " + person, Edges::some, x -> x.hold(2, person), Check.BEYOND);
        }
        edges.refused("a 9th", Edges::full, x -> x.hold(9, 8), Check.BEYOND);
        edges.refused("nobody", PumpTalk::new, x -> x.hold(0, 0), Check.BEYOND);
    }

    // Promise 36: What a SPOT holds as one of a kind (0 to 6). BEYOND. MISSING. KIND: nor of one under it.

    private static void asOneUnderAnother() {
        String[] under = {"0", "01", "02", "023", "0234", "05", "016"};
        for (int kind = 0; kind <= 6; kind++) {
            int one = kind;
            Edges.Made made = () -> {
                PumpTalk x = new PumpTalk();
                x.person(one);
                x.hold(9, 0);
                return x;
            };
            for (int top = 0; top <= 6; top++) {
                int asked = top;
                if (under[kind].indexOf('0' + top) >= 0) {
                    edges.told(kind + " as " + top, made, x -> x.as(9, asked), 0);
                } else {
                    edges.refused(kind + " as " + top, made, x -> x.as(9, asked), Check.KIND);
                }
            }
        }
    }

    private static void asFindingsInOrder() {
        for (int spot : new int[] {MIN, -1, 10, MAX}) {
            edges.refused("spot " + spot, Edges::some, x -> x.as(spot, 0), Check.BEYOND);
        }
        for (int kind : new int[] {MIN, -1, 7, MAX}) {
            edges.refused("BEYOND before MISSING", Edges::some, x -> x.as(5, kind), Check.BEYOND);
            edges.refused("BEYOND before KIND", Edges::some, x -> x.as(2, kind), Check.BEYOND);
        }
        edges.refused("MISSING", Edges::some, x -> x.as(5, 0), Check.MISSING);
        edges.refused("MISSING before KIND", Edges::some, x -> x.as(5, 6), Check.MISSING);
        edges.refused("a friend is no lawyer", Edges::some, x -> x.as(2, 2), Check.KIND);
        edges.refused("a lawyer is no master", Edges::some, x -> x.as(9, 3), Check.KIND);
    }

    // Promise 37: n numbers, all 0, of 8, 16 or 32 bits; bits 0: MISSING: n (0 if MISSING). BEYOND. SIZE. BEYOND.

    private static void sheetNoneAndForty() {
        int[] bits = {8, 16, 32};
        for (int s = 0; s <= 3; s++) {
            for (int b : bits) {
                PumpTalk x = Check.square("deaf");
                check.due("none", x.sheet(s, b, 0), 0);
                check.due("none to write", x.write(s, 0, 0), Check.BEYOND);
                check.due("not missing", x.load(s), 0);
                check.due("forty", x.sheet(s, b, 40), 40);
                check.due("the last", x.write(s, 39, 1), 1);
                check.due("a 41st", x.write(s, 40, 1), Check.BEYOND);
                check.due("one", x.sheet(s, b, 1), 1);
                check.due("the first", x.write(s, 0, 1), 1);
                check.due("a second", x.write(s, 1, 1), Check.BEYOND);
            }
        }
    }

    private static void sheetAllNought() {
        PumpTalk x = Check.square("deaf;deaf");
        x.sheet(0, 32, 40);
        for (int i = 0; i < 40; i++) {
            x.write(0, i, 5);
        }
        x.sheet(0, 32, 2);
        check.due("all 0", x.judge(0), 0);
        x.sheet(0, 32, 40);
        x.sheet(1, 32, 1);
        for (int i = 0; i < 40; i++) {
            x.copy(0, i, 1, 0, 1);
            check.due("number " + i + " is 0", x.judge(1), 0);
        }
    }

    private static void sheetMissing() {
        PumpTalk x = Edges.some();
        check.due("missing", x.sheet(0, 0, 40), 0);
        check.due("missing", x.load(0), Check.MISSING);
        check.due("missing", x.sheet(1, 0, 0), 0);
        check.due("missing", x.write(1, 0, 0), Check.MISSING);
        check.due("another stays", x.load(2), 0);
        edges.told("missing as before", Edges::some, y -> y.sheet(3, 0, 5), 0);
        check.due("there again", x.sheet(0, 8, 1), 1);
        check.due("with 0", x.judge(0), 1);
        x.change(0, 3, 0);
        check.due("with 0", x.judge(0), 0);
    }

    private static void sheetFindingsInOrder() {
        for (int s : NO_SHEETS) {
            edges.refused("no such sheet before SIZE", Edges::some, x -> x.sheet(s, 8, -1), Check.BEYOND);
            edges.refused("no such sheet", Edges::some, x -> x.sheet(s, 0, 0), Check.BEYOND);
        }
        for (int bits : new int[] {MIN, -8, -1, 1, 7, 9, 15, 17, 24, 31, 33, 64, MAX}) {
            edges.refused("other bits before SIZE", Edges::some, x -> x.sheet(0, bits, -1), Check.BEYOND);
            edges.refused("other bits", Edges::some, x -> x.sheet(0, bits, 3), Check.BEYOND);
        }
        for (int bits : new int[] {0, 8, 16, 32}) {
            edges.refused("n below 0", Edges::some, x -> x.sheet(0, bits, -1), Check.SIZE);
            edges.refused("n below 0", Edges::some, x -> x.sheet(3, bits, MIN), Check.SIZE);
            edges.refused("n above 40", Edges::some, x -> x.sheet(0, bits, 41), Check.BEYOND);
            edges.refused("n above 40", Edges::some, x -> x.sheet(3, bits, MAX), Check.BEYOND);
        }
    }

    // Promise 38: Number i of a sheet becomes v (its lowest bits): 1. BEYOND: no sheet. MISSING. BEYOND: no number.

    private static void writeLowestBits() {
        int[][] rows = {{8, 256 + 9, 9}, {8, 247, -9}, {8, -9, -9}, {8, MIN, 0}, {8, MAX, -1}, {8, 0x12345607, 7},
            {16, 65536 + 9, 9}, {16, 65527, -9}, {16, -9, -9}, {16, MIN, 0}, {16, MAX, -1}, {16, 0x12340007, 7},
            {32, 9, 9}, {32, -9, -9}, {32, 0, 0}};
        for (int[] row : rows) {
            PumpTalk x = Check.square("deaf thinks 5;deaf thinks 5");
            x.sheet(0, row[0], 2);
            check.due("write", x.write(0, 1, row[1]), 1);
            check.due("the other one stays 0", x.load(0) + x.of(0, 2), 2);
            check.due(row[1] + " of " + row[0] + " bits", x.of(1, 2), row[2]);
        }
        int[][] ends = {{8, 127}, {8, 128}, {16, 256 + 7}, {16, 32767}, {16, 32768}, {32, 256 + 7}, {32, 65536 + 7},
            {32, MIN},
            {32, MAX}};
        for (int[] row : ends) {
            PumpTalk x = Check.square("deaf");
            tell(x, 0, row[0], row[1]);
            check.due(row[1] + " of " + row[0] + " bits is no view", x.load(0), 0);
        }
    }

    private static void writeFindingsInOrder() {
        for (int s : NO_SHEETS) {
            edges.refused("no such sheet", Edges::some, x -> x.write(s, -1, 1), Check.BEYOND);
        }
        edges.refused("MISSING before no such number", Edges::some, x -> x.write(3, -1, 1), Check.MISSING);
        for (int i : new int[] {MIN, -1, 3, 40, MAX}) {
            edges.refused("no such number " + i, Edges::some, x -> x.write(0, i, 1), Check.BEYOND);
        }
        edges.refused("no number at all", Edges::some, x -> x.write(2, 0, 1), Check.BEYOND);
    }

    // Promise 39: n numbers come to another one (as they all were): n. BEYOND. MISSING. KIND. BEYOND.

    private static void copyNoneAndAll() {
        edges.told("none", Edges::some, x -> x.copy(0, 0, 1, 0, 0), 0);
        edges.told("none, from the end to the end", Edges::some, x -> x.copy(0, 3, 1, 4, 0), 0);
        edges.told("none of none", Edges::some, x -> x.copy(2, 0, 2, 0, 0), 0);
        edges.told("all to where they are", Edges::some, x -> x.copy(1, 0, 1, 0, 4), 4);
        PumpTalk x = Check.square("deaf");
        x.sheet(0, 16, 40);
        x.sheet(1, 16, 40);
        x.write(0, 0, 3);
        x.write(0, 39, 4);
        check.due("forty", x.copy(0, 0, 1, 0, 40), 40);
        x.load(1);
        check.due("the first", x.of(0, 2), 3);
        check.due("the last to the first", x.copy(1, 39, 1, 0, 1), 1);
        x.load(1);
        check.due("the last", x.of(0, 2), 4);
    }

    private static void copyAsTheyAllWere() {
        PumpTalk x = Check.square("deaf;deaf;deaf;deaf");
        int[][] due = {{1, 1, 2, 3}, {2, 3, 4, 4}, {1, 2, 1, 2}};
        int[][] rows = {{0, 1, 3}, {1, 0, 3}, {0, 2, 2}};
        for (int i = 0; i < rows.length; i++) {
            tell(x, 0, 8, 1, 2, 3, 4);
            check.due("copy", x.copy(0, rows[i][0], 0, rows[i][1], rows[i][2]), rows[i][2]);
            x.load(0);
            for (int k = 0; k < 4; k++) {
                check.due("number " + k, x.of(k, 2), due[i][k]);
            }
        }
    }

    private static void copyFindingsInOrder() {
        for (int s : NO_SHEETS) {
            edges.refused("no such sheet before MISSING", Edges::some, x -> x.copy(s, -1, 3, 0, 1), Check.BEYOND);
            edges.refused("no such sheet before MISSING", Edges::some, x -> x.copy(3, -1, s, 0, 1), Check.BEYOND);
        }
        edges.refused("MISSING before KIND", Edges::some, x -> x.copy(3, -1, 0, 0, 1), Check.MISSING);
        edges.refused("MISSING before KIND", Edges::some, x -> x.copy(0, 0, 3, -1, 1), Check.MISSING);
        edges.refused("both missing", Edges::some, x -> x.copy(3, 0, 3, 0, 0), Check.MISSING);
        edges.refused("KIND before BEYOND", Edges::some, x -> x.copy(0, -1, 2, 0, 1), Check.KIND);
        edges.refused("KIND of none", Edges::some, x -> x.copy(2, 0, 0, 0, 0), Check.KIND);
        int[][] beyond = {{0, 0, 1, 0, 4}, {0, 1, 1, 0, 3}, {0, 3, 1, 0, 1}, {1, 0, 0, 0, 4}, {0, 0, 1, 2, 3}, {0, 0,
            1, 4, 1},
            {0, -1, 1, 0, 1}, {0, 0, 1, -1, 1}, {0, 0, 1, 0, -1}, {0, 4, 1, 0, 0}, {0, 0, 1, 5, 0}, {0, 4, 1, 0, -1},
            {0, 1, 1, 0, MAX}, {0, MAX, 1, 0, 1}, {0, 0, 1, MAX, 1}, {0, MAX, 1, MAX, MAX}, {0, MIN, 1, 0, 0},
            {0, 0, 1, MIN, 0}, {0, 0, 1, 0, MIN}, {0, MIN, 1, MIN, MIN}, {2, 0, 2, 0, 1}};
        for (int[] c : beyond) {
            edges.refused("copy(" + c[0] + ", " + c[1] + ", " + c[2] + ", " + c[3] + ", " + c[4] + ")", Edges::some,
                    x -> x.copy(c[0], c[1], c[2], c[3], c[4]), Check.BEYOND);
        }
    }

    // Promise 40: Numbers become VIEWS on the SUBJECT as it is of PEOPLE 0, 1, ..: how many came. BEYOND. MISSING.

    private static void loadNoneAndAll() {
        edges.told("an empty sheet", Edges::some, x -> x.load(2), 0);
        edges.told("nobody is there", () -> {
            PumpTalk x = new PumpTalk();
            x.sheet(0, 8, 3);
            return x;
        }, x -> x.load(0), 0);
        PumpTalk x = Check.square("deaf;deaf;deaf;deaf;deaf;deaf;deaf;deaf;on 5");
        tell(x, 3, 8, 9, -9, 0, 1, -1, 2, -2, 8);
        check.due("eight", x.load(3), 8);
        int[] views = {9, -9, 0, 1, -1, 2, -2, 8};
        for (int person = 0; person < 8; person++) {
            check.due("on subject 5", x.of(person, 7), views[person]);
            check.due("on subject 4", x.of(person, 6), 0);
        }
    }

    /** It ends at the first that isn't -9 to 9, or for which there is nobody. */
    private static void loadEnds() {
        int[][] rows = {{10, 0, 0}, {-10, 0, 0}, {4, 10, 4}, {4, -10, 4}, {4, 5, 10}, {4, 5, 9}, {127, -128, 1}};
        int[] came = {0, 0, 1, 1, 2, 3, 0};
        for (int i = 0; i < rows.length; i++) {
            PumpTalk x = Check.square("deaf thinks 1;deaf thinks 2;deaf thinks 3");
            tell(x, 0, 8, rows[i]);
            check.due("load", x.load(0), came[i]);
            for (int person = 0; person < 3; person++) {
                check.due("view", x.of(person, 2), person < came[i] ? rows[i][person] : person + 1);
            }
        }
        PumpTalk x = Check.square("deaf;deaf");
        tell(x, 0, 8, 1, 2, 3);
        check.due("for the third there is nobody", x.load(0), 2);
        x.person(0);
        check.due("now there is", x.load(0), 3);
        tell(x, 0, 8, 5);
        check.due("the sheet is shorter", x.load(0), 1);
        check.due("the second one's view stays", x.of(1, 2), 2);
        x.sheet(0, 8, 40);
        check.due("forty numbers for three", x.load(0), 3);
    }

    private static void loadFindings() {
        for (int s : NO_SHEETS) {
            edges.refused("no such sheet " + s, Edges::some, x -> x.load(s), Check.BEYOND);
        }
        edges.refused("missing", Edges::some, x -> x.load(3), Check.MISSING);
    }

    // Promise 41: numbers of a sheet are those VIEWS: 0 if so; else 1 and the place of the first that isn't so.

    private static void judgeSo() {
        edges.told("an empty sheet", Edges::some, x -> x.judge(2), 0);
        edges.told("an empty sheet of nobody", () -> {
            PumpTalk x = new PumpTalk();
            x.sheet(0, 8, 0);
            return x;
        }, x -> x.judge(0), 0);
        String eight = "deaf thinks 9;deaf thinks -9;deaf;deaf;deaf;deaf;deaf;deaf thinks 5";
        PumpTalk x = Check.square(eight);
        tell(x, 0, 16, 9, -9, 0, 0, 0, 0, 0, 5);
        check.due("all eight", x.judge(0), 0);
        tell(x, 1, 16, 9);
        check.due("the first alone", x.judge(1), 0);
        x.subject(1);
        check.due("on another subject", x.judge(0), 1);
        x.load(0);
        check.due("what was loaded", x.judge(0), 0);
    }

    private static void judgeFirstThatIsnt() {
        PumpTalk x = Check.square("deaf thinks 1;deaf thinks 2;deaf thinks 3");
        int[][] rows = {{0, 2, 3}, {1, 3, 3}, {1, 2, 4}, {0, 0, 0}, {1, 2, 3, 0}, {1, 2, 3, 4, 5}, {1, 2, 259}};
        int[] due = {1, 2, 3, 1, 4, 4, 3};
        for (int i = 0; i < rows.length; i++) {
            tell(x, 0, 32, rows[i]);
            check.due("judge", x.judge(0), due[i]);
        }
        PumpTalk nobody = new PumpTalk();
        nobody.sheet(0, 8, 1);
        check.due("for the first there is nobody", nobody.judge(0), 1);
    }

    private static void judgeFindings() {
        for (int s : NO_SHEETS) {
            edges.refused("no such sheet " + s, Edges::some, x -> x.judge(s), Check.BEYOND);
        }
        edges.refused("missing", Edges::some, x -> x.judge(3), Check.MISSING);
    }
}
