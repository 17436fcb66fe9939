/** Promises 32 to 34: the tape and texts. */
public final class TextsTest {
    private static final Check check = new Check("TextsTest");

    public static void main(String[] args) {
        feed();
        wipe();
        telling();
        faults();
        crowd();
        nothingChanges();
        strangeBytes();
        check.end();
    }

    private static void feed() {
        PumpTalk x = new PumpTalk();
        check.due("n 0", x.feed(0, 0), Check.BEYOND);
        check.due("n 5", x.feed(0, 5), Check.BEYOND);
        check.due("n -1", x.feed(0, -1), Check.BEYOND);
        check.due("the lowest two of four", x.feed(0x61626f6e, 2), 2);
        check.due("the lowest one", x.feed(0x61626335, 1), 3);
        check.due("on5", x.text(), 1);
        check.due("subject", x.now(2), 5);
        for (int i = 1; i <= 29; i++) {
            check.due("feed", x.feed(-1, 4), 4 * i);
        }
        check.due("feed", x.feed(-1, 3), 119);
        check.due("too many", x.feed(-1, 2), Check.FULL);
        check.due("beyond before full", x.feed(-1, 5), Check.BEYOND);
        check.due("the last one", x.feed(-1, 1), 120);
        check.due("too many", x.feed(-1, 1), Check.FULL);
        check.due("bytes", x.count(5), 120);
    }

    private static void wipe() {
        PumpTalk x = new PumpTalk();
        check.due("wipe", x.wipe(), 0);
        Check.feed(x, "on 3");
        check.due("wipe", x.wipe(), 4);
        check.due("wipe", x.wipe(), 0);
        check.due("the text is gone", x.text(), -1);
    }

    private static void telling() {
        PumpTalk x = new PumpTalk();
        check.due("all kinds", Check.text(x, "person;deaf;lawyer;master;trinity;wed;friend"), 7);
        for (int kind = 0; kind < 7; kind++) {
            check.due("kind", x.of(kind, 0), kind);
            check.due("voice", x.of(kind, 1), 3);
        }
        check.due("the tape is empty", x.count(5), 0);
        check.due("nobody yet", x.now(3), -1);
        check.due("without blanks", Check.text(x, "wedvoice"), -1);
        check.due("as few blanks as can be", Check.text(x, "wed voice9thinks1-2 3-0 0009-9;pair 7 0;on5"), 3);
        int[] due = {5, 9, 1, -2, 3, 0, 9, -9};
        for (int what = 0; what < due.length; what++) {
            check.due("of(7, " + what + ")", x.of(7, what), due[what]);
        }
        check.due("handle", x.now(3), 56);
        check.due("subject", x.now(2), 5);
        check.due("blanks all over", Check.text(x, "   on   2  ;  pair 1   2 ; pair 3 04   "), 3);
        check.due("handle", x.now(3), 28);
        check.due("subject", x.now(2), 2);
        check.due("voice 0", Check.text(new PumpTalk(), "friend voice 0"), 1);
    }

    private static void faults() {
        String[] texts = {"", "   ", ";", "on", "on ", "on 6", "on -1", "on 1;", "on 1 ; ", "on 1 on 2", "on 1000",
            "on 4294967296", "on on", "pair", "pair 0", "pair 0 ", "pair 0 0", "pair 0 2", "pair 2 0", "pair 0;",
            "pair 0 1 1", "wed 3", "wed voice", "wed voice 10", "wed voice -1", "wed voice 1 voice 2",
            "wed thinks", "wed thinks ;", "wed thinks -", "wed thinks - ", "wed thinks --1", "wed thinks 10",
            "wed thinks 1 -10", "wed thinks 1 2 3 4 5 6 7", "wed thinks 1 2 3 4 5 6 -7", "wed thinks 1 voice 2",
            "wed thinks voice 1", "weds", "WED", "wed:", "wed;;wed", "5", "-", "voice 3", "thinks 1", "wed wed",
            "wed voice 1 thinks 1 thinks 2", "wed;pair 0 2;pair 3 0", "wed\ton", "on 3 ,", "wed thinks 1 - 2 -",
            "ped", "wez", "wed thinksz", "wed thinkz", "ob 1", "wed vo1ce 1",
            "pair 00000000000000000000000000001 00"};
        int[] faults = {0, 3, 0, 2, 3, 3, 3, 5, 7, 5, 3,
            3, 3, 4, 6, 7, 7, 7, 5, 6,
            9, 4, 9, 10, 10, 12,
            10, 11, 12, 13, 12, 11,
            14, 23, 23, 13,
            11, 0, 0, 3, 4, 0, 0, 0, 0, 4,
            21, 18, 3, 5, 18,
            0, 0, 4, 4, 0, 4,
            -1};
        for (int i = 0; i < texts.length; i++) {
            PumpTalk x = new PumpTalk();
            x.person(0);
            x.person(0);
            int due = faults[i] < 0 ? 1 : -1 - faults[i];
            check.due("'" + texts[i] + "'", Check.text(x, texts[i]), due);
            check.due("the tape is empty behind '" + texts[i] + "'", x.wipe(), 0);
            check.due("no finding", x.status(-1), 0);
            check.due("no new one", x.count(1), 2);
        }
    }

    private static void crowd() {
        PumpTalk x = Check.square("wed;wed;wed;wed;wed;wed");
        check.due("a 9th one", Check.text(x, "deaf;deaf;  deaf voice"), -1 - 12);
        check.due("nobody came", x.count(1), 6);
        check.due("two more", Check.text(x, "deaf;deaf;pair 7 6"), 3);
        check.due("a 9th one", Check.text(x, "on 3;person"), -1 - 5);
        check.due("subject", x.now(2), 0);
    }

    private static void nothingChanges() {
        PumpTalk x = Check.square("wed voice 1;deaf;pair 1 0;on 4");
        x.seed(99);
        x.hold(3, 1);
        check.due("fault", Check.text(x, "master;pair 2 0;on 1;on 9"), -1 - 24);
        check.due("people", x.count(1), 2);
        check.due("handle", x.now(3), 8);
        check.due("subject", x.now(2), 4);
        check.due("z", x.count(6), 99);
        check.due("spot", x.as(3, 1), 1);
        check.due("right text keeps z", Check.text(x, "on 1") + x.count(6), 100);
        check.due("right text keeps spots", x.as(3, 1), 1);
    }

    private static void strangeBytes() {
        for (int value = 0; value < 256; value++) {
            PumpTalk x = new PumpTalk();
            Check.feed(x, "on 5");
            x.feed(value, 1);
            int due = value == ' ' ? 1 : -5;
            if (value == ';') {
                due = -6;
            } else if (value >= '0' && value <= '9') {
                due = -4;
            }
            check.due("on 5 and byte " + value, x.text(), due);
        }
    }
}
