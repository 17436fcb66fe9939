/** The edges of promises 32 to 34, and of TAPE and TEXT under 'Terms', each sentence with a test of its own. */
public final class EdgesOfTextsTest {
    private static final Check check = new Check("EdgesOfTextsTest");
    private static final Edges edges = new Edges(check);
    private static final int MIN = Integer.MIN_VALUE;
    private static final int MAX = Integer.MAX_VALUE;

    public static void main(String[] args) {
        feedLowestBytesHighestFirst();
        feedBeyond();
        feedFull();
        wipeEmptyAndFull();
        wordsAsLongAsCanBe();
        numbersAsLongAsCanBe();
        numbersAtMost999();
        signsOneEach();
        blanksBetween();
        bytesThatBeginNoToken();
        itemsOneAndThirty();
        voicesNoneToNine();
        viewsOneToSix();
        viewsNoneToNine();
        pairsOfThoseAlreadyThere();
        subjectsNoneToFive();
        anotherWord();
        theWordOfANinth();
        endsTooEarly();
        itemByItem();
        aFaultChangesNothing();
        theTapeIsEmptyThen();
        check.end();
    }

    /** Of a text with a fault in a square of four people: where it is, and that only the tape is another then. */
    private static void fault(String text, int place) {
        PumpTalk x = Edges.some();
        x.wipe();
        PumpTalk twin = Edges.some();
        twin.wipe();
        check.due("'" + text + "'", Check.text(x, text), -1 - place);
        check.due("'" + text + "': bytes then", x.count(5), 0);
        check.due("'" + text + "': no finding", x.status(-1), twin.status(-1));
        edges.alike("'" + text + "'", x, twin);
    }

    private static PumpTalk right(String text, int items) {
        PumpTalk x = new PumpTalk();
        check.due("'" + text + "'", Check.text(x, text), items);
        check.due("'" + text + "': bytes then", x.count(5), 0);
        check.due("'" + text + "': no finding", x.status(-1), 0);
        return x;
    }

    // Promise 32: the n lowest bytes of a number, the highest of these first (n 1 to 4): how many it has. BEYOND: n.
    // FULL.

    private static void feedLowestBytesHighestFirst() {
        int[] numbers = {0x6f6e2035, 0x416f6e35, 0x41426f6e, 0x41424335};
        for (int n = 4; n >= 3; n--) {
            PumpTalk x = new PumpTalk();
            check.due("n " + n, x.feed(numbers[4 - n], n), n);
            check.due("on 5", x.text(), 1);
            check.due("subject", x.now(2), 5);
        }
        PumpTalk x = new PumpTalk();
        check.due("the lowest two", x.feed(numbers[2], 2), 2);
        check.due("the lowest one", x.feed(numbers[3], 1), 3);
        check.due("on5", x.text(), 1);
        check.due("subject", x.now(2), 5);
        check.due("a byte of 255", x.feed(-1, 1), 1);
        check.due("begins no token", x.text(), -1);
        Check.feed(x, "on 5");
        check.due("four bytes of 255", x.feed(-1, 4), 8);
        check.due("the first of them", x.text(), -1 - 4);
    }

    private static void feedBeyond() {
        for (int n : new int[] {MIN, -1, 0, 5, MAX}) {
            edges.refused("n " + n, Edges::some, x -> x.feed(0x2020, n), Check.BEYOND);
            edges.refused("BEYOND before FULL", Edges::full, x -> x.feed(0x2020, n), Check.BEYOND);
        }
    }

    private static void feedFull() {
        edges.refused("118 and 3", Edges::full, x -> x.feed(0x202020, 3), Check.FULL);
        edges.refused("118 and 4", Edges::full, x -> x.feed(0x20202020, 4), Check.FULL);
        PumpTalk x = Edges.full();
        check.due("118 and 2", x.feed(0x2020, 2), 120);
        for (int n = 1; n <= 4; n++) {
            check.due("120 and " + n, x.feed(0x20202020, n), Check.FULL);
        }
        check.due("all 120 are read", x.text(), 1);
        check.due("subject", x.now(2), 4);
        x = Edges.full();
        check.due("118 and 1", x.feed(0x20, 1), 119);
        check.due("119 and 2", x.feed(0x2020, 2), Check.FULL);
        check.due("119 and 1: a strange one", x.feed(0x21, 1), 120);
        check.due("the last byte is read", x.text(), -1 - 119);
    }

    // Promise 33: THE TAPE is empty: how many it had.

    private static void wipeEmptyAndFull() {
        PumpTalk x = Edges.full();
        x.feed(0, 2);
        check.due("full", x.wipe(), 120);
        check.due("empty", x.wipe(), 0);
        check.due("empty", x.count(5), 0);
        check.due("there is room again", x.feed(0x20202020, 4), 4);
        edges.told("an empty one", () -> Check.square("deaf"), PumpTalk::wipe, 0);
    }

    // TOKENS, each as long as can be: WORDS, NUMBERS, SIGNS (one each); blanks may stand between.

    private static void wordsAsLongAsCanBe() {
        fault("wedvoice", 0);
        fault("weda", 0);
        fault("wedz", 0);
        fault("wed`", 3);
        fault("wed{", 3);
        fault("wedA", 3);
        fault("wedthinks 1", 0);
        fault("we d", 0);
        fault("o n 1", 0);
        right("wed voice1thinks1", 1);
    }

    private static void numbersAsLongAsCanBe() {
        fault("on 50", 3);
        fault("on 09", 3);
        fault("on 5 0", 5);
        fault("on 5/", 4);
        fault("on 5:", 4);
        fault("pair 01", 7);
        right("on5", 1);
        check.due("as one number", right("on 05", 1).now(2), 5);
        check.due("six views", right("wed thinks 1 2 3 4 5 6", 1).of(0, 7), 6);
        fault("wed thinks 123456", 11);
    }

    private static void numbersAtMost999() {
        fault("on 999", 3);
        fault("on 1000", 3);
        fault("wed voice 1000", 10);
        fault("wed thinks 4294967297", 11);
        fault("wed thinks -4294967295", 12);
        fault("on 18446744073709551617", 3);
        fault("on 10000000000000000000000000000000000000000000000000000000000000000000000000001", 3);
        check.due("0 ahead of it", right("on 000", 1).now(2), 0);
    }

    private static void signsOneEach() {
        fault(";;", 0);
        fault("on 1;;on 2", 5);
        fault("on 1; ;", 6);
        fault("wed thinks --1", 12);
        fault("wed thinks - - 1", 13);
        fault("on -1", 3);
        fault("wed voice -1", 10);
        fault("pair -0 1", 5);
        fault("-", 0);
        check.due("a sign and a number", right("wed thinks-1-2", 1).of(0, 3), -2);
    }

    private static void blanksBetween() {
        check.due("everywhere", right("   wed   voice   9   thinks   -   1   2   ;   on   3   ", 2).of(0, 2), -1);
        check.due("nowhere", right("on3;on4", 2).now(2), 4);
        for (int value : new int[] {0, 9, 10, 11, 12, 13, 31, 33, 160, 255}) {
            fault("on" + (char) value + "3", 2);
        }
    }

    private static void bytesThatBeginNoToken() {
        fault("!", 0);
        fault("on 3!", 4);
        fault("on 3 ; !", 7);
        fault("wed thinks 1, 2", 12);
        fault("wed voice +1", 10);
        fault("on 3" + (char) 128, 4);
        fault("on 3" + (char) 255, 4);
        fault("on 3 " + (char) 0, 5);
        fault("Wed", 0);
        fault("on 3.", 4);
    }

    // TEXT: ITEM { ; ITEM }.

    private static void itemsOneAndThirty() {
        right("on 1", 1);
        StringBuilder many = new StringBuilder("on 5");
        for (int i = 1; i < 29; i++) {
            many.append(";on").append(i % 6);
        }
        check.due("29 items in 116 bytes", right(many.toString(), 29).now(2), 28 % 6);
        many.setLength(0);
        for (int i = 0; i < 29; i++) {
            many.append("on3;");
        }
        check.due("30 items in 119 bytes", right(many.append("on4").toString(), 30).now(2), 4);
        fault(many + ";", 120);
        fault("on 1 on 2", 5);
        fault("wed wed", 4);
        fault("on 1;", 5);
        fault(";on 1", 0);
        fault("pair 0 1 2", 9);
    }

    private static void voicesNoneToNine() {
        check.due("voice 0", right("wed voice 0", 1).of(0, 1), 0);
        check.due("voice 9", right("wed voice 9", 1).of(0, 1), 9);
        check.due("perhaps", right("wed", 1).of(0, 1), 3);
        fault("wed voice 10", 10);
        fault("wed voice", 9);
        fault("wed voice ;", 10);
        fault("wed voice thinks 1", 10);
        fault("wed voice 1 2", 12);
        fault("wed voice 1 voice 2", 12);
        fault("wed thinks 1 voice 2", 13);
        fault("voice 1", 0);
        fault("on 1 voice 1", 5);
    }

    /** Up to six VIEWS (at least one; on SUBJECTS 0, 1, ..). */
    private static void viewsOneToSix() {
        PumpTalk x = right("wed thinks 7", 1);
        check.due("on subject 0", x.of(0, 2), 7);
        check.due("on subject 1", x.of(0, 3), 0);
        x = right("wed thinks 1 -2 3 -4 5 -6", 1);
        int[] views = {1, -2, 3, -4, 5, -6};
        for (int i = 0; i < 6; i++) {
            check.due("on subject " + i, x.of(0, 2 + i), views[i]);
        }
        fault("wed thinks", 10);
        fault("wed thinks;on 1", 10);
        fault("wed thinks wed", 11);
        fault("wed thinks 1 2 3 4 5 6 7", 23);
        fault("wed thinks 1 2 3 4 5 6 -7", 23);
        fault("wed thinks 1 2 3 4 5 6-", 22);
        fault("wed thinks 1 thinks 2", 13);
        fault("thinks 1", 0);
    }

    private static void viewsNoneToNine() {
        check.due("9", right("wed thinks 9", 1).of(0, 2), 9);
        check.due("-9", right("wed thinks -9", 1).of(0, 2), -9);
        check.due("0", right("wed thinks 0", 1).of(0, 2), 0);
        check.due("-0", right("wed thinks -0", 1).of(0, 2), 0);
        check.due("- 9", right("wed thinks - 9", 1).of(0, 2), -9);
        fault("wed thinks 10", 11);
        fault("wed thinks -10", 12);
        fault("wed thinks 1 2 3 4 5 10", 21);
        fault("wed thinks 1 -", 14);
        fault("wed thinks 1 - ;", 15);
        fault("wed thinks - wed", 13);
    }

    /** pair, two NUMBERS: two unlike ones who are there already. */
    private static void pairsOfThoseAlreadyThere() {
        check.due("the first and the last", right("wed;wed;wed;pair 2 0", 4).now(3), 16);
        check.due("the last two of eight", right("wed;wed;wed;wed;wed;wed;wed;wed;pair 6 7", 9).now(3), 55);
        fault("pair 0 0", 7);
        fault("pair 3 3", 7);
        fault("pair 4 0", 5);
        fault("pair 0 4", 7);
        fault("pair 4 4", 5);
        fault("pair 0 8", 7);
        fault("pair 0 999", 7);
        fault("pair 0 4;wed", 7);
        fault("wed;pair 4 5", 11);
        fault("pair 0;", 6);
        fault("pair wed", 5);
        fault("pair;", 4);
        PumpTalk x = new PumpTalk();
        check.due("nobody is there", Check.text(x, "pair 0 0"), -1 - 5);
        check.due("one alone", Check.text(x, "wed;pair 0 0"), -1 - 11);
        check.due("one alone", Check.text(x, "wed;pair 1 0"), -1 - 9);
        check.due("one alone", Check.text(x, "wed;pair 0 1"), -1 - 11);
        x = Edges.some();
        x.wipe();
        check.due("one who came just now", Check.text(x, "wed;pair 4 0"), 2);
        check.due("told so", x.now(3), 32);
    }

    private static void subjectsNoneToFive() {
        check.due("0", right("on 5;on 0", 2).now(2), 0);
        check.due("5", right("on 5", 1).now(2), 5);
        fault("on 6", 3);
        fault("on", 2);
        fault("on ;", 3);
        fault("on on", 3);
        fault("on 1 1", 5);
    }

    /** Another WORD: where an ITEM begins, and where there can be none. */
    private static void anotherWord() {
        fault("people", 0);
        fault("perso", 0);
        fault("persons", 0);
        fault("on 1;o 2", 5);
        fault("thought 1", 0);
        fault("wed think 1", 4);
        fault("wed voices 1", 4);
        fault("wed on 1", 4);
        fault("5", 0);
    }

    /** The WORD of a 9th one: its own place. */
    private static void theWordOfANinth() {
        PumpTalk x = Edges.some();
        x.wipe();
        check.due("a 9th", Check.text(x, "wed;wed;wed;wed; wed voice 10"), -1 - 17);
        check.due("still four", x.count(1), 4);
        check.due("eight", Check.text(x, "wed;wed;wed;wed"), 4);
        check.due("a 9th", Check.text(x, "wed"), -1);
        check.due("a 9th", Check.text(x, "  friend"), -1 - 2);
        check.due("a 9th behind a right item", Check.text(x, "on 5;deaf thinks"), -1 - 5);
        check.due("subject", x.now(2), 1);
        check.due("another word of a full square", Check.text(x, "we"), -1);
        check.due("eight", x.count(1), 8);
    }

    /** Or how many bytes there are if it ends too early: blanks at the end, too. */
    private static void endsTooEarly() {
        fault("", 0);
        fault(" ", 1);
        fault("     ", 5);
        fault("on", 2);
        fault("on  ", 4);
        fault("wed;", 4);
        fault("wed; ", 5);
        fault("wed voice ", 10);
        fault("wed thinks  ", 12);
        fault("wed thinks -", 12);
        fault("wed thinks 1 -  ", 16);
        fault("pair", 4);
        fault("pair 0", 6);
        fault("pair 0 ", 7);
        StringBuilder long120 = new StringBuilder("on 1;");
        while (long120.length() < 120) {
            long120.append(' ');
        }
        fault(long120.toString(), 120);
    }

    // Promise 34: all that it tells is so, item by item: how many ITEMS. With a FAULT: -1 less the FAULT.

    private static void itemByItem() {
        PumpTalk x = right("wed;wed;pair 0 1;on 2;wed;pair 2 1;on 4", 7);
        check.due("the last pair counts", x.now(3), 17);
        check.due("the last subject counts", x.now(2), 4);
        check.due("three", x.count(1), 3);
        check.due("no time goes by", x.now(0), 0);
        check.due("more of them", Check.text(x, "trinity"), 1);
        check.due("the fourth", x.of(3, 0), 4);
        check.due("the handle stays", x.now(3), 17);
    }

    /** Right items ahead of the FAULT do nothing either; what else is there stays, the image, too. */
    private static void aFaultChangesNothing() {
        fault("wed voice 9 thinks 9;pair 4 0;on 5;on 6", 38);
        fault("pair 1 3;on 0;wed;wed;wed;wed;wed", 30);
        PumpTalk x = new PumpTalk();
        check.due("a fault at 0 is no finding", x.text(), -1);
        check.due("all findings", x.status(-1), 0);
    }

    private static void theTapeIsEmptyThen() {
        PumpTalk x = new PumpTalk();
        check.due("right", Check.text(x, "on 3"), 1);
        check.due("empty", x.count(5), 0);
        check.due("read once", x.text(), -1);
        check.due("a fault", Check.text(x, "on 9"), -4);
        check.due("empty", x.wipe(), 0);
        check.due("a short text behind a long one", Check.text(x, "deaf voice 3 thinks 1 2 3 4 5 6"), 1);
        check.due("nothing of the long one is left", Check.text(x, "wed"), 1);
        check.due("views of the new one", x.of(1, 2), 0);
    }
}
