/** Promises 17 to 25: who with whom, and as what. */
public final class PairsTest {
    private static final Check check = new Check("PairsTest");

    public static void main(String[] args) {
        gives();
        best();
        partner();
        subjectFor();
        matched();
        kindFor();
        viewFor();
        voiceFor();
        check.end();
    }

    private static void gives() {
        PumpTalk x = Check.square("person thinks 4 1;deaf;deaf thinks 0 5;pair 1 2;on 1;wed");
        check.due("gives nothing at once", x.gives(0, 1, 0), 0);
        // On subject 1: one reply of 3 + 5; then over subjects 2, 3, 4, 5 and 0, where four replies are.
        check.due("gives", x.gives(0, 1, 1), 8);
        check.due("gives", x.gives(0, 1, 6), 8);
        check.due("gives", x.gives(0, 1, 7), 16);
        check.due("gives", x.gives(1, 0, 60), 40);
        check.due("the handle stays", x.now(3), 8 + 2);
        check.due("the subject stays", x.now(2), 1);
        check.due("the views stay", x.of(0, 3), 1);
        check.due("gives", x.gives(0, 1, 61), Check.BEYOND);
        check.due("gives", x.gives(0, 1, -1), Check.BEYOND);
        check.due("one and the same", x.gives(1, 1, 1), Check.BEYOND);
        check.due("nobody", x.gives(0, 4, 1), Check.BEYOND);
        check.due("nobody", x.gives(-1, 0, 1), Check.BEYOND);
    }

    private static void best() {
        PumpTalk x = new PumpTalk();
        check.due("nobody", x.best(0), Check.NONE);
        check.due("nobody, and beyond", x.best(61), Check.BEYOND);
        x.person(1);
        check.due("only one", x.best(60), Check.NONE);
        x.person(1);
        x.person(1);
        check.due("all agree: the least pair", x.best(60), 1);
        x.change(2, 2, 1);
        check.due("0 and 2", x.best(60), 2);
        x.change(1, 1, 4);
        check.due("1 and 2", x.best(60), 10);
        check.due("in no minutes", x.best(0), 1);
        check.due("best(-1)", x.best(-1), Check.BEYOND);
    }

    private static void partner() {
        PumpTalk x = new PumpTalk();
        check.due("nobody", x.partner(0, 0), Check.BEYOND);
        x.person(1);
        check.due("no other one", x.partner(0, 0), Check.NONE);
        check.due("beyond before none", x.partner(0, 61), Check.BEYOND);
        check.due("beyond", x.partner(0, -1), Check.BEYOND);
        x.person(1);
        x.person(1);
        check.due("the least", x.partner(0, 5), 1);
        check.due("the least", x.partner(1, 5), 0);
        check.due("the least", x.partner(2, 5), 0);
        x.change(2, 7, -1);
        check.due("over five subjects", x.partner(0, 5), 1);
        check.due("over five subjects", x.partner(0, 6), 2);
        check.due("over five subjects", x.partner(2, 6), 0);
    }

    private static void subjectFor() {
        PumpTalk x = Check.square("lawyer thinks 0 1 0 2 0 -2;deaf;wed;on 4");
        check.due("the least of like ones", x.subjectFor(0, 1, 1), 3);
        check.due("told the other way", x.subjectFor(1, 0, 1), 3);
        check.due("in no minutes", x.subjectFor(0, 1, 0), 0);
        x.change(0, 2 + 5, 3);
        check.due("as it is now", x.subjectFor(0, 1, 1), 5);
        check.due("the subject stays", x.now(2), 4);
        check.due("one and the same", x.subjectFor(0, 0, 1), Check.BEYOND);
        check.due("nobody", x.subjectFor(0, 3, 1), Check.BEYOND);
        check.due("nobody", x.subjectFor(-1, 0, 1), Check.BEYOND);
        check.due("too long", x.subjectFor(0, 1, 61), Check.BEYOND);
        check.due("too long", x.subjectFor(0, 1, -1), Check.BEYOND);
    }

    private static void matched() {
        PumpTalk x = new PumpTalk();
        check.due("nobody", x.matched(30), 0);
        check.due("matched(31)", x.matched(31), Check.BEYOND);
        check.due("matched(-1)", x.matched(-1), Check.BEYOND);
        check.due("nobody", x.matchOf(0, 0), Check.BEYOND);
        x.person(1);
        check.due("alone", x.matched(30), 0);
        check.due("alone", x.matchOf(0, 30), -1);
        x.person(1);
        x.person(1);
        // In one minute: 0 and 1 agree and 2 stands apart; each pair with 2 gives 10.
        x.change(2, 2, 5);
        check.due("one pair", x.matched(1), 10);
        check.due("0 is with 2", x.matchOf(0, 1), 2);
        check.due("1 is with nobody", x.matchOf(1, 1), -1);
        check.due("2 is with 0", x.matchOf(2, 1), 0);
        x.change(1, 1, 9);
        check.due("the loud one", x.matched(1), 16);
        check.due("0 is with nobody", x.matchOf(0, 1), -1);
        check.due("1 is with 2", x.matchOf(1, 1), 2);
        // 1 and 2 give most, 21, but then 0 and 3 agree: the other two ways give 15 and 16.
        x = Check.square("deaf;deaf voice 9 thinks 5;deaf voice 8 thinks 9;deaf");
        check.due("the best pair", x.best(1), 8 + 2);
        check.due("two pairs", x.matched(1), 31);
        int[] mates = {1, 0, 3, 2};
        for (int person = 0; person < 4; person++) {
            check.due("of two such ways the first", x.matchOf(person, 1), mates[person]);
        }
        check.due("nothing changes", x.of(1, 2) + x.now(0) + x.now(3), 4);
        // Eight: three of them think otherwise than the rest, so that three pairs give.
        x = Check.square("deaf thinks 1;deaf thinks 1;deaf;deaf;deaf;deaf;deaf voice 9;deaf thinks 1");
        check.due("three pairs", x.matched(1), 10 + 10 + 16);
        int[] eight = {2, 3, 0, 1, 5, 4, 7, 6};
        for (int person = 0; person < 8; person++) {
            check.due("of many such ways the first", x.matchOf(person, 1), eight[person]);
        }
        check.due("asked without matched()", Check.square("deaf;deaf;deaf thinks 1").matchOf(0, 1), 2);
        check.due("no minutes", x.matched(0), 0);
        check.due("no minutes", x.matchOf(0, 0), 1);
        check.due("no minutes", x.matchOf(3, 0), 2);
        check.due("nobody", x.matchOf(8, 0), Check.BEYOND);
        check.due("nobody", x.matchOf(-1, 0), Check.BEYOND);
        check.due("too long", x.matchOf(0, 31), Check.BEYOND);
        check.due("too long", x.matchOf(0, -1), Check.BEYOND);
    }

    private static void kindFor() {
        PumpTalk x = Check.square("person thinks 1;deaf;deaf");
        // At minute 0 with g 1 and voice 3: 3, 5, 4, 3, 6, 13, 2.
        check.due("wed", x.kindFor(0, 1, 1), 5);
        check.due("in no minutes", x.kindFor(0, 1, 0), 0);
        check.due("who agree", x.kindFor(1, 2, 60), 0);
        x.rest();
        x.go(1);
        // At minute 1 the wed one gives 3 only.
        check.due("trinity", x.kindFor(0, 1, 1), 4);
        check.due("the kind stays", x.of(0, 0), 0);
        check.due("one and the same", x.kindFor(0, 0, 1), Check.BEYOND);
        check.due("nobody", x.kindFor(3, 0, 1), Check.BEYOND);
        check.due("nobody", x.kindFor(0, -1, 1), Check.BEYOND);
        check.due("too long", x.kindFor(0, 1, 61), Check.BEYOND);
        check.due("too long", x.kindFor(0, 1, -1), Check.BEYOND);
    }

    private static void viewFor() {
        PumpTalk x = Check.square("lawyer thinks 1 1;deaf thinks 2;person;on 0");
        check.due("furthest", x.viewFor(0, 1, 0, 1), -9);
        x.change(1, 2, -2);
        check.due("furthest", x.viewFor(0, 1, 0, 1), 9);
        check.due("another subject: all alike", x.viewFor(0, 1, 1, 1), -9);
        x.change(1, 2, 0);
        check.due("of two the least", x.viewFor(0, 1, 0, 1), -9);
        check.due("for a deaf one any but 0", x.viewFor(1, 2, 0, 1), -9);
        check.due("in no minutes", x.viewFor(0, 1, 0, 0), -9);
        check.due("the view stays", x.of(0, 2), 1);
        check.due("one and the same", x.viewFor(0, 0, 0, 1), Check.BEYOND);
        check.due("nobody", x.viewFor(3, 0, 0, 1), Check.BEYOND);
        check.due("nobody", x.viewFor(0, -1, 0, 1), Check.BEYOND);
        check.due("no subject", x.viewFor(0, 1, 6, 1), Check.BEYOND);
        check.due("no subject", x.viewFor(0, 1, -1, 1), Check.BEYOND);
        check.due("too long", x.viewFor(0, 1, 0, 61), Check.BEYOND);
        check.due("too long", x.viewFor(0, 1, 0, -1), Check.BEYOND);
    }

    private static void voiceFor() {
        PumpTalk x = Check.square("deaf thinks 1;deaf;deaf");
        // Each minute gives the voice, 2 and 5.
        check.due("voice", x.voiceFor(0, 1, 70, 10), 0);
        check.due("voice", x.voiceFor(0, 1, 71, 10), 1);
        check.due("voice", x.voiceFor(0, 1, 160, 10), 9);
        check.due("voice", x.voiceFor(0, 1, 161, 10), Check.NONE);
        check.due("who agree", x.voiceFor(1, 2, 1, 60), Check.NONE);
        check.due("who agree", x.voiceFor(1, 2, 0, 60), 0);
        check.due("in no minutes", x.voiceFor(0, 1, 0, 0), 0);
        check.due("in no minutes", x.voiceFor(0, 1, 1, 0), Check.NONE);
        check.due("the voice stays", x.of(0, 1), 3);
        check.due("v", x.voiceFor(0, 1, 9999, 60), Check.NONE);
        check.due("v", x.voiceFor(0, 1, 10000, 60), Check.BEYOND);
        check.due("v", x.voiceFor(0, 1, -1, 60), Check.BEYOND);
        check.due("n", x.voiceFor(0, 1, 0, 61), Check.BEYOND);
        check.due("n", x.voiceFor(0, 1, 0, -1), Check.BEYOND);
        check.due("one and the same", x.voiceFor(1, 1, 0, 0), Check.BEYOND);
        check.due("nobody", x.voiceFor(3, 1, 0, 0), Check.BEYOND);
        check.due("nobody", x.voiceFor(1, -1, 0, 0), Check.BEYOND);
    }
}
