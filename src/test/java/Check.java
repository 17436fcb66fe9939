/** What the tests share: it prints each answer that is not as due, and ends with exit code 1 if there was one. */
final class Check {
    static final int BEYOND = -1000001;
    static final int FULL = -1000002;
    static final int KIND = -1000003;
    static final int NONE = -1000004;
    static final int STATE = -1000005;
    static final int MISSING = -1000006;
    static final int SIZE = -1000007;

    private final String name;
    private int asked = 0;
    private int wrong = 0;

    Check(String name) {
        this.name = name;
    }

    void due(String what, long got, long want) {
        asked++;
        if (got != want) {
            wrong++;
            System.out.println(name + ": " + what + " answered " + got + ", due is " + want);
        }
    }

    void end() {
        System.out.println(name + ": " + asked + " answers, " + wrong + " not as due");
        if (wrong != 0 || asked == 0) {
            System.exit(1);
        }
    }

    /** Four bytes a call, since an object is good for 512 calls. */
    static void feed(PumpTalk x, String text) {
        for (int i = 0; i < text.length(); i += 4) {
            int n = Math.min(4, text.length() - i);
            int bytes = 0;
            for (int k = 0; k < n; k++) {
                bytes = bytes << 8 | text.charAt(i + k);
            }
            x.feed(bytes, n);
        }
    }

    static int text(PumpTalk x, String text) {
        feed(x, text);
        return x.text();
    }

    /** A square told by a text that must be right. */
    static PumpTalk square(String text) {
        PumpTalk x = new PumpTalk();
        if (text(x, text) < 0) {
            throw new IllegalStateException("no text: " + text);
        }
        return x;
    }
}
