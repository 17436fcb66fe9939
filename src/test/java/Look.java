import java.util.ArrayList;
import java.util.List;

/**
 * All that can be seen of an object, told as answers of calls, so that two objects that were made alike can be held
 * beside one another. Looking uses the object up: the tape and the sheets can't be seen without changing something.
 */
final class Look {
    private final PumpTalk x;
    private final List<String> seen = new ArrayList<>();

    private Look(PumpTalk x) {
        this.x = x;
    }

    static List<String> at(PumpTalk x) {
        Look look = new Look(x);
        look.square("now");
        look.sheets();
        look.see("text", x.text());
        look.square("by the tape");
        look.see("undo", x.undo());
        look.square("kept");
        look.see("tear", x.tear());
        look.see("undo behind tear", x.undo());
        return look.seen;
    }

    private void see(String what, long answer) {
        seen.add(what + " " + answer);
    }

    private void square(String when) {
        for (int what = 0; what <= 5; what++) {
            see(when + ": now(" + what + ")", x.now(what));
        }
        int people = x.count(1);
        for (int what = 1; what <= 7; what++) {
            see(when + ": count(" + what + ")", x.count(what));
        }
        for (int person = 0; person < people; person++) {
            for (int what = 0; what <= 8; what++) {
                see(when + ": of(" + person + ", " + what + ")", x.of(person, what));
            }
        }
        for (int spot = 0; spot <= 9; spot++) {
            see(when + ": as(" + spot + ", 0)", x.as(spot, 0));
        }
    }

    private void sheets() {
        if (x.count(1) == 0) {
            x.person(0);
        }
        for (int s = 0; s <= 3; s++) {
            for (int t = s + 1; t <= 3; t++) {
                see("as many bits have " + s + ", " + t, x.copy(s, 0, t, 0, 0));
            }
        }
        for (int s = 0; s <= 3; s++) {
            numbers(s);
            bits(s);
        }
    }

    /** Each number comes to the sheet's begin and so to a view of person 0: it is seen if it can be one. */
    private void numbers(int s) {
        for (int i = 0; i <= 40; i++) {
            int copied = x.copy(s, i, s, 0, 1);
            see("number " + i + " of sheet " + s, copied);
            if (copied != 1) {
                return;
            }
            see("loaded", x.load(s));
            see("view", x.of(0, 2 + x.now(2)));
        }
    }

    /** 7 above the lowest 8 bits is a view of 8 bits alone, 7 above the lowest 16 one of 8 or 16. */
    private void bits(int s) {
        see("written to sheet " + s, x.write(s, 0, 256 + 7));
        see("8 bits", x.load(s));
        see("written to sheet " + s, x.write(s, 0, 65536 + 7));
        see("8 or 16 bits", x.load(s));
    }
}
