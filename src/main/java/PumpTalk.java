/** A pump that gives water so long as two people at its handle don't agree. README.md says how to use it. */
public final class PumpTalk {
    private static final int LOW = -1000001;
    private static final int BEYOND = LOW;
    private static final int FULL = LOW - 1;
    private static final int KIND = LOW - 2;
    private static final int NONE = LOW - 3;
    private static final int STATE = LOW - 4;
    private static final int MISSING = LOW - 5;
    private static final int SIZE = LOW - 6;
    private static final int FINDINGS = 7;

    private static final int SUBJECTS = 6;
    private static final int MOST_PEOPLE = 8;
    private static final int NOBODY = -1;
    private static final int KINDS = 7;
    private static final int MOST_VOICE = 9;
    private static final int MOST_VIEW = 9;
    private static final int MOST_APART = 18;
    private static final int MOST_WATER = 999999;
    private static final int LAST_MINUTE = 99999;
    private static final int SPOTS = 10;
    private static final int SHEETS = 4;
    private static final int SHEET_NUMBERS = 40;
    private static final int TAPE_BYTES = 120;

    private static final int MOST_GO = 100;
    private static final int MOST_AHEAD = 200;
    private static final int MOST_SEARCH = 300;
    private static final int MOST_GIVING = 60;
    private static final int MOST_MATCHING = 30;
    private static final int MOST_ASKED = 9999;
    private static final int MOST_QUARRELS = 20;
    private static final int MOST_ODDS = 10;
    private static final int ANY_WATER = -1;

    private final Square square = new Square();
    /** What would be is tried here, so that no call has to make a square of its own. */
    private final Square trial = new Square();
    private final Square kept = new Square();
    private boolean isKept = false;
    private final Reader reader = new Reader();
    private final Matching matching = new Matching();
    private final Sheet[] sheets = new Sheet[SHEETS];
    private final int[] tally = new int[FINDINGS];

    public PumpTalk() {
        for (int s = 0; s < SHEETS; s++) {
            sheets[s] = new Sheet();
        }
    }

    // ---- people, handle

    public int person(int kind) {
        if (isOutside(kind, 0, KINDS - 1)) {
            return found(BEYOND);
        }
        if (square.isCrowded()) {
            return found(FULL);
        }
        return square.addPerson(kind);
    }

    public int of(int person, int what) {
        if (!square.isThere(person) || isOutside(what, 0, SUBJECTS + 2)) {
            return found(BEYOND);
        }
        if (what == SUBJECTS + 2) {
            return square.isAtHandle(person) ? 1 : 0;
        }
        return square.trait(person, what);
    }

    public int change(int person, int what, int v) {
        if (!square.isThere(person) || isOutside(what, 0, SUBJECTS + 1) || isWrongTrait(what, v)) {
            return found(BEYOND);
        }
        int was = square.trait(person, what);
        square.setTrait(person, what, v);
        return was;
    }

    public int reply(int person, int g, int what) {
        if (!square.isThere(person) || isOutside(g, 1, MOST_APART) || isOutside(what, 0, 1)) {
            return found(BEYOND);
        }
        return what == 0 ? square.movesOf(person, g) : square.strokesOf(person, g);
    }

    public int apart(int a, int b, int subject) {
        if (!square.isThere(a) || !square.isThere(b) || isNoSubject(subject)) {
            return found(BEYOND);
        }
        return square.distance(a, b, subject);
    }

    public int pair(int a, int b) {
        if (isNoPair(a, b)) {
            return found(BEYOND);
        }
        square.seat(a, b);
        return Integer.bitCount(square.quarrelSet());
    }

    public int rest() {
        int was = square.isManned() ? 1 : 0;
        square.leave();
        return was;
    }

    public int subject(int subject) {
        if (isNoSubject(subject)) {
            return found(BEYOND);
        }
        int was = square.topic;
        square.topic = subject;
        return was;
    }

    // ---- minutes

    public int go(int n) {
        if (isOutside(n, 1, MOST_GO)) {
            return found(BEYOND);
        }
        if (square.minute + n > LAST_MINUTE) {
            return found(STATE);
        }
        square.passMinutes(n);
        return square.water;
    }

    public int now(int what) {
        switch (what) {
            case 0:
                return square.minute;
            case 1:
                return square.water;
            case 2:
                return square.topic;
            case 3:
                return square.isManned() ? pairNumber(square.first, square.second) : NOBODY;
            case 4:
                return square.quarrelSet();
            case 5:
                return square.allVoices();
            default:
                return found(BEYOND);
        }
    }

    // ---- what will be (nothing changes)

    public int ahead(int n) {
        if (isOutside(n, 0, MOST_AHEAD)) {
            return found(BEYOND);
        }
        trial.takeOver(square);
        trial.passMinutes(n);
        return trial.water;
    }

    public int view(int person, int subject, int n) {
        if (!square.isThere(person) || isNoSubject(subject) || isOutside(n, 0, MOST_AHEAD)) {
            return found(BEYOND);
        }
        trial.takeOver(square);
        trial.passMinutes(n);
        return trial.viewOn(person, subject);
    }

    public int dry() {
        trial.takeOver(square);
        for (int n = 0; n <= MOST_SEARCH; n++) {
            if (trial.quarrelSet() == 0) {
                return n;
            }
            trial.passMinute();
        }
        return found(NONE);
    }

    public int filled(int v) {
        if (isOutside(v, 0, MOST_WATER)) {
            return found(BEYOND);
        }
        trial.takeOver(square);
        for (int n = 0; n <= MOST_SEARCH; n++) {
            if (trial.water >= v) {
                return n;
            }
            trial.passMinute();
        }
        return found(NONE);
    }

    public int round() {
        trial.takeOver(square);
        for (int n = 1; n <= MOST_SEARCH; n++) {
            trial.passMinute();
            if (trial.thinksLike(square)) {
                return n;
            }
        }
        return found(NONE);
    }

    // ---- who with whom

    public int gives(int a, int b, int n) {
        if (isNoPair(a, b) || isOutside(n, 0, MOST_GIVING)) {
            return found(BEYOND);
        }
        return gain(a, b, n);
    }

    public int best(int n) {
        if (isOutside(n, 0, MOST_GIVING)) {
            return found(BEYOND);
        }
        int best = NONE;
        int most = -1;
        for (int a = 0; a < square.people; a++) {
            for (int b = a + 1; b < square.people; b++) {
                int gain = gain(a, b, n);
                if (gain > most) {
                    most = gain;
                    best = pairNumber(a, b);
                }
            }
        }
        return best == NONE ? found(NONE) : best;
    }

    public int partner(int person, int n) {
        if (!square.isThere(person) || isOutside(n, 0, MOST_GIVING)) {
            return found(BEYOND);
        }
        int best = NONE;
        int most = -1;
        for (int other = 0; other < square.people; other++) {
            int gain = other == person ? -1 : gain(person, other, n);
            if (gain > most) {
                most = gain;
                best = other;
            }
        }
        return best == NONE ? found(NONE) : best;
    }

    public int subjectFor(int a, int b, int n) {
        if (isNoPair(a, b) || isOutside(n, 0, MOST_GIVING)) {
            return found(BEYOND);
        }
        int best = 0;
        int most = -1;
        for (int subject = 0; subject < SUBJECTS; subject++) {
            trial.takeOver(square);
            trial.topic = subject;
            int gain = trial.pumpBy(a, b, n);
            if (gain > most) {
                most = gain;
                best = subject;
            }
        }
        return best;
    }

    public int matched(int n) {
        if (isOutside(n, 0, MOST_MATCHING)) {
            return found(BEYOND);
        }
        weighPairs(n);
        return matching.total(square.people);
    }

    public int matchOf(int person, int n) {
        if (!square.isThere(person) || isOutside(n, 0, MOST_MATCHING)) {
            return found(BEYOND);
        }
        weighPairs(n);
        return matching.mateOf(person, square.people);
    }

    // ---- as what

    public int kindFor(int person, int other, int n) {
        if (isNoPair(person, other) || isOutside(n, 0, MOST_GIVING)) {
            return found(BEYOND);
        }
        return bestTrait(person, other, 0, n);
    }

    public int viewFor(int person, int other, int subject, int n) {
        if (isNoPair(person, other) || isNoSubject(subject) || isOutside(n, 0, MOST_GIVING)) {
            return found(BEYOND);
        }
        return bestTrait(person, other, 2 + subject, n);
    }

    public int voiceFor(int person, int other, int v, int n) {
        if (isNoPair(person, other) || isOutside(v, 0, MOST_ASKED) || isOutside(n, 0, MOST_GIVING)) {
            return found(BEYOND);
        }
        for (int voice = 0; voice <= MOST_VOICE; voice++) {
            if (gainAs(person, other, 1, voice, n) >= v) {
                return voice;
            }
        }
        return found(NONE);
    }

    // ---- what was pumped

    public int fits(int s, int person) {
        int lack = lackOfFit(s, person);
        if (lack != 0) {
            return found(lack);
        }
        int fitting = 0;
        for (int view = -MOST_VIEW; view <= MOST_VIEW; view++) {
            if (isAsTold(sheets[s], person, 2 + square.topic, view)) {
                fitting++;
            }
        }
        return fitting;
    }

    public int thought(int s, int person) {
        int lack = lackOfFit(s, person);
        if (lack != 0) {
            return found(lack);
        }
        for (int view = -MOST_VIEW; view <= MOST_VIEW; view++) {
            if (isAsTold(sheets[s], person, 2 + square.topic, view)) {
                return view;
            }
        }
        return found(NONE);
    }

    public int kinds(int s, int person) {
        int lack = lackOfFit(s, person);
        if (lack != 0) {
            return found(lack);
        }
        int set = 0;
        for (int kind = 0; kind < KINDS; kind++) {
            if (isAsTold(sheets[s], person, 0, kind)) {
                set |= 1 << kind;
            }
        }
        return set;
    }

    // ---- quarrels

    public int quarrels(int n) {
        if (isOutside(n, 1, MOST_QUARRELS)) {
            return found(BEYOND);
        }
        if (square.minute + n > LAST_MINUTE) {
            return found(STATE);
        }
        for (int i = 0; i < n; i++) {
            int a = square.draw() % MOST_PEOPLE;
            int b = square.draw() % MOST_PEOPLE;
            if (!isNoPair(a, b)) {
                square.seat(a, b);
            }
            square.passMinute();
        }
        return square.water;
    }

    public long odds(int n, int what) {
        if (isOutside(n, 0, MOST_ODDS) || isOutside(what, 0, 1)) {
            return found(BEYOND);
        }
        long above = (long) square.people * (square.people - 1);
        long below = MOST_PEOPLE * MOST_PEOPLE;
        // What is below the line is a power of 2, so that halving both is all the shortening there is.
        while (below > 1 && above % 2 == 0) {
            above /= 2;
            below /= 2;
        }
        return power(what == 0 ? above : below, n);
    }

    public int seed(int v) {
        int was = square.z;
        square.z = v;
        return was;
    }

    // ---- texts

    public int feed(int bytes, int n) {
        if (isOutside(n, 1, 4)) {
            return found(BEYOND);
        }
        if (reader.length + n > TAPE_BYTES) {
            return found(FULL);
        }
        for (int i = n - 1; i >= 0; i--) {
            reader.append(bytes >>> (8 * i) & 255);
        }
        return reader.length;
    }

    public int wipe() {
        int had = reader.length;
        reader.length = 0;
        return had;
    }

    public int text() {
        trial.takeOver(square);
        int answer = reader.readInto(trial);
        reader.length = 0;
        if (answer >= 0) {
            square.takeOver(trial);
        }
        return answer;
    }

    // ---- spots, sheets

    public int hold(int spot, int person) {
        if (isOutside(spot, 0, SPOTS - 1) || person != NOBODY && !square.isThere(person)) {
            return found(BEYOND);
        }
        square.spots[spot] = person;
        return 1;
    }

    public int as(int spot, int kind) {
        if (isOutside(spot, 0, SPOTS - 1) || isOutside(kind, 0, KINDS - 1)) {
            return found(BEYOND);
        }
        int person = square.spots[spot];
        if (!square.isThere(person)) {
            return found(MISSING);
        }
        return Kinds.isUnder(square.trait(person, 0), kind) ? person : found(KIND);
    }

    public int sheet(int s, int bits, int n) {
        if (isNoSheet(s) || bits != 0 && bits != 8 && bits != 16 && bits != 32) {
            return found(BEYOND);
        }
        if (n < 0) {
            return found(SIZE);
        }
        if (n > SHEET_NUMBERS) {
            return found(BEYOND);
        }
        return sheets[s].renew(bits, n);
    }

    public int write(int s, int i, int v) {
        int lack = lackOfSheet(s);
        if (lack != 0) {
            return found(lack);
        }
        if (isOutside(i, 0, sheets[s].size - 1)) {
            return found(BEYOND);
        }
        sheets[s].put(i, v);
        return 1;
    }

    public int copy(int s, int from, int t, int to, int n) {
        if (isNoSheet(s) || isNoSheet(t)) {
            return found(BEYOND);
        }
        if (sheets[s].isMissing() || sheets[t].isMissing()) {
            return found(MISSING);
        }
        if (sheets[s].bits != sheets[t].bits) {
            return found(KIND);
        }
        if (!sheets[s].hasRange(from, n) || !sheets[t].hasRange(to, n)) {
            return found(BEYOND);
        }
        System.arraycopy(sheets[s].numbers, from, sheets[t].numbers, to, n);
        return n;
    }

    public int load(int s) {
        int lack = lackOfSheet(s);
        if (lack != 0) {
            return found(lack);
        }
        Sheet sheet = sheets[s];
        int came = 0;
        while (came < sheet.size && square.isThere(came)
                && !isOutside(sheet.numbers[came], -MOST_VIEW, MOST_VIEW)) {
            square.setView(came, square.topic, sheet.numbers[came]);
            came++;
        }
        return came;
    }

    public int judge(int s) {
        int lack = lackOfSheet(s);
        if (lack != 0) {
            return found(lack);
        }
        Sheet sheet = sheets[s];
        for (int i = 0; i < sheet.size; i++) {
            if (!square.isThere(i) || square.viewOn(i, square.topic) != sheet.numbers[i]) {
                return 1 + i;
            }
        }
        return 0;
    }

    // ---- images

    public int image() {
        kept.takeOver(square);
        isKept = true;
        return 1;
    }

    public int undo() {
        if (!isKept) {
            return found(NONE);
        }
        square.takeOver(kept);
        return square.minute;
    }

    public int tear() {
        int was = isKept ? 1 : 0;
        isKept = false;
        return was;
    }

    public int count(int what) {
        switch (what) {
            case 0:
                return square.minute;
            case 1:
                return square.people;
            case 2:
                return square.topic;
            case 3:
                return square.water;
            case 4:
                return square.allVoices();
            case 5:
                return reader.length;
            case 6:
                return square.z;
            case 7:
                return square.fullSpots();
            default:
                return found(BEYOND);
        }
    }

    public int status(int which) {
        if (isOutside(which, -1, FINDINGS - 1)) {
            return found(BEYOND);
        }
        if (which >= 0) {
            return tally[which];
        }
        int all = 0;
        for (int i = 0; i < FINDINGS; i++) {
            all += tally[i];
        }
        return all;
    }

    // ---- findings, and what is asked before a call does anything

    private int found(int finding) {
        int which = LOW - finding;
        if (which >= 0 && which < FINDINGS) {
            tally[which]++;
        }
        return finding;
    }

    private static boolean isOutside(int v, int least, int most) {
        return v < least || v > most;
    }

    private static boolean isNoSubject(int subject) {
        return isOutside(subject, 0, SUBJECTS - 1);
    }

    private static boolean isNoSheet(int s) {
        return isOutside(s, 0, SHEETS - 1);
    }

    private boolean isNoPair(int a, int b) {
        return !square.isThere(a) || !square.isThere(b) || a == b;
    }

    private static boolean isWrongTrait(int what, int v) {
        return isOutside(v, leastTrait(what), mostTrait(what));
    }

    /** A trait is told as by of(): 0 KIND, 1 VOICE, 2 to 7 VIEWS. */
    private static int leastTrait(int what) {
        return what < 2 ? 0 : -MOST_VIEW;
    }

    private static int mostTrait(int what) {
        if (what == 0) {
            return KINDS - 1;
        }
        return what == 1 ? MOST_VOICE : MOST_VIEW;
    }

    /** 0 if the sheet is there, else the finding. */
    private int lackOfSheet(int s) {
        if (isNoSheet(s)) {
            return BEYOND;
        }
        return sheets[s].isMissing() ? MISSING : 0;
    }

    private int lackOfFit(int s, int person) {
        int lack = lackOfSheet(s);
        if (lack == 0 && !square.isThere(person)) {
            return BEYOND;
        }
        return lack;
    }

    // ---- trials

    private int gain(int a, int b, int n) {
        trial.takeOver(square);
        return trial.pumpBy(a, b, n);
    }

    private int gainAs(int person, int other, int what, int v, int n) {
        trial.takeOver(square);
        trial.setTrait(person, what, v);
        return trial.pumpBy(person, other, n);
    }

    private int bestTrait(int person, int other, int what, int n) {
        int best = leastTrait(what);
        int most = -1;
        for (int v = leastTrait(what); v <= mostTrait(what); v++) {
            int gain = gainAs(person, other, what, v, n);
            if (gain > most) {
                most = gain;
                best = v;
            }
        }
        return best;
    }

    private void weighPairs(int n) {
        for (int a = 0; a < square.people; a++) {
            for (int b = a + 1; b < square.people; b++) {
                matching.weigh(a, b, gain(a, b, n));
            }
        }
        matching.solve(square.people);
    }

    private boolean isAsTold(Sheet told, int person, int what, int v) {
        trial.takeOver(square);
        trial.setTrait(person, what, v);
        for (int i = 0; i < told.size; i++) {
            if (told.numbers[i] != ANY_WATER && told.numbers[i] != trial.water) {
                return false;
            }
            trial.passMinute();
        }
        return true;
    }

    private static int pairNumber(int a, int b) {
        return MOST_PEOPLE * a + b;
    }

    private static long power(long base, int n) {
        long power = 1;
        for (int i = 0; i < n; i++) {
            power *= base;
        }
        return power;
    }

    /** What the kinds do in a reply, and which of them is under which. */
    private static final class Kinds {
        static final int PERSON = 0;
        static final int DEAF = 1;
        static final int LAWYER = 2;
        static final int MASTER = 3;
        static final int TRINITY = 4;
        static final int WED = 5;
        static final int FRIEND = 6;
        private static final int[] ABOVE = {-1, PERSON, PERSON, LAWYER, MASTER, PERSON, DEAF};

        static boolean isUnder(int kind, int top) {
            int k = kind;
            for (int i = 0; i < KINDS && k >= 0 && k < KINDS; i++) {
                if (k == top) {
                    return true;
                }
                k = ABOVE[k];
            }
            return false;
        }

        static int moves(int kind, int g, int minute) {
            int asMaster = minute % 2 == 0 ? -1 : 1;
            switch (kind) {
                case DEAF:
                    return 0;
                case LAWYER:
                    return -1;
                case MASTER:
                    return asMaster;
                case TRINITY:
                    return g > 5 ? asMaster + 1 : asMaster;
                case WED:
                    return g;
                case FRIEND:
                    return g / 2;
                default:
                    return 1;
            }
        }

        static int strokes(int kind, int voice, int g, int minute) {
            int asLawyer = voice + g;
            int asMaster = asLawyer > 0 ? asLawyer - 1 : 0;
            switch (kind) {
                case DEAF:
                    return voice + 2;
                case LAWYER:
                    return asLawyer;
                case MASTER:
                    return asMaster;
                case TRINITY:
                    return 2 * asMaster;
                case WED:
                    return minute % 7 == 0 ? voice + 10 : voice;
                case FRIEND:
                    return (voice + 2) / 2;
                default:
                    return voice;
            }
        }

        static String nameOf(int kind) {
            switch (kind) {
                case DEAF:
                    return "deaf";
                case LAWYER:
                    return "lawyer";
                case MASTER:
                    return "master";
                case TRINITY:
                    return "trinity";
                case WED:
                    return "wed";
                case FRIEND:
                    return "friend";
                default:
                    return "person";
            }
        }
    }

    /** All that an image keeps. Its methods trust their arguments: the face has asked about them. */
    private static final class Square {
        private final int[] kindOf = new int[MOST_PEOPLE];
        private final int[] voiceOf = new int[MOST_PEOPLE];
        private final int[] views = new int[MOST_PEOPLE * SUBJECTS];
        final int[] spots = new int[SPOTS];
        int people = 0;
        int minute = 0;
        int water = 0;
        int topic = 0;
        int first = NOBODY;
        int second = NOBODY;
        int z = 1;

        Square() {
            for (int i = 0; i < SPOTS; i++) {
                spots[i] = NOBODY;
            }
        }

        void takeOver(Square other) {
            System.arraycopy(other.kindOf, 0, kindOf, 0, MOST_PEOPLE);
            System.arraycopy(other.voiceOf, 0, voiceOf, 0, MOST_PEOPLE);
            System.arraycopy(other.views, 0, views, 0, MOST_PEOPLE * SUBJECTS);
            System.arraycopy(other.spots, 0, spots, 0, SPOTS);
            people = other.people;
            minute = other.minute;
            water = other.water;
            topic = other.topic;
            first = other.first;
            second = other.second;
            z = other.z;
        }

        boolean isThere(int person) {
            return person >= 0 && person < people;
        }

        boolean isCrowded() {
            return people >= MOST_PEOPLE;
        }

        int addPerson(int kind) {
            int person = people;
            people++;
            kindOf[person] = kind;
            voiceOf[person] = 3;
            for (int subject = 0; subject < SUBJECTS; subject++) {
                setView(person, subject, 0);
            }
            return person;
        }

        int trait(int person, int what) {
            if (what == 0) {
                return kindOf[person];
            }
            return what == 1 ? voiceOf[person] : viewOn(person, what - 2);
        }

        void setTrait(int person, int what, int v) {
            if (what == 0) {
                kindOf[person] = v;
            } else if (what == 1) {
                voiceOf[person] = v;
            } else {
                setView(person, what - 2, v);
            }
        }

        int viewOn(int person, int subject) {
            return views[person * SUBJECTS + subject];
        }

        void setView(int person, int subject, int v) {
            views[person * SUBJECTS + subject] = v;
        }

        int distance(int a, int b, int subject) {
            return Math.abs(viewOn(a, subject) - viewOn(b, subject));
        }

        int movesOf(int person, int g) {
            return Kinds.moves(kindOf[person], g, minute);
        }

        int strokesOf(int person, int g) {
            return Kinds.strokes(kindOf[person], voiceOf[person], g, minute);
        }

        void seat(int a, int b) {
            first = a;
            second = b;
        }

        void leave() {
            first = NOBODY;
            second = NOBODY;
        }

        boolean isManned() {
            return isThere(first) && isThere(second);
        }

        boolean isAtHandle(int person) {
            return person == first || person == second;
        }

        /** Empty also if nobody is at the handle: it is dry just when this is 0. */
        int quarrelSet() {
            int set = 0;
            for (int subject = 0; subject < SUBJECTS && isManned(); subject++) {
                if (distance(first, second, subject) != 0) {
                    set |= 1 << subject;
                }
            }
            return set;
        }

        int allVoices() {
            int sum = 0;
            for (int person = 0; person < people; person++) {
                sum += voiceOf[person];
            }
            return sum;
        }

        int fullSpots() {
            int full = 0;
            for (int i = 0; i < SPOTS; i++) {
                if (spots[i] != NOBODY) {
                    full++;
                }
            }
            return full;
        }

        boolean thinksLike(Square other) {
            if (topic != other.topic) {
                return false;
            }
            for (int i = 0; i < people * SUBJECTS; i++) {
                if (views[i] != other.views[i]) {
                    return false;
                }
            }
            return true;
        }

        int draw() {
            z = z * 1103515245 + 12345;
            return z >>> 8;
        }

        /** Tells what came uncut, since what a pair gives is counted above the most water, too. */
        int passMinute() {
            int came = isManned() ? exchange() : 0;
            water = Math.min(MOST_WATER, water + came);
            minute = Math.min(LAST_MINUTE, minute + 1);
            return came;
        }

        void passMinutes(int n) {
            for (int i = 0; i < n; i++) {
                passMinute();
            }
        }

        int pumpBy(int a, int b, int n) {
            seat(a, b);
            int came = 0;
            for (int i = 0; i < n; i++) {
                came += passMinute();
            }
            return came;
        }

        private int exchange() {
            int viewA = viewOn(first, topic);
            int viewB = viewOn(second, topic);
            if (viewA == viewB) {
                topic = (topic + 1) % SUBJECTS;
                return 0;
            }
            int g = Math.abs(viewA - viewB);
            int towardsB = viewA < viewB ? 1 : -1;
            int moveA = Kinds.moves(kindOf[first], g, minute);
            int moveB = Kinds.moves(kindOf[second], g, minute);
            setView(first, topic, heldView(viewA + towardsB * moveA));
            setView(second, topic, heldView(viewB - towardsB * moveB));
            return Kinds.strokes(kindOf[first], voiceOf[first], g, minute)
                    + Kinds.strokes(kindOf[second], voiceOf[second], g, minute);
        }

        private static int heldView(int v) {
            if (v > MOST_VIEW) {
                return MOST_VIEW;
            }
            return v < -MOST_VIEW ? -MOST_VIEW : v;
        }
    }

    /** People in pairs: sets of people are bits, and each set's most is kept. */
    private static final class Matching {
        private final int[] gains = new int[MOST_PEOPLE * MOST_PEOPLE];
        private final int[] most = new int[1 << MOST_PEOPLE];

        void weigh(int a, int b, int gain) {
            gains[pairNumber(a, b)] = gain;
        }

        void solve(int people) {
            most[0] = 0;
            for (int set = 1; set <= everybody(people); set++) {
                int a = leastOf(set);
                int others = set & ~(1 << a);
                int top = most[others];
                for (int b = a + 1; b < people; b++) {
                    if ((others >> b & 1) == 1) {
                        top = Math.max(top, together(a, b, others));
                    }
                }
                most[set] = top;
            }
        }

        int total(int people) {
            return most[everybody(people)];
        }

        int mateOf(int person, int people) {
            int set = everybody(people);
            for (int i = 0; i < people && set != 0; i++) {
                int a = leastOf(set);
                int others = set & ~(1 << a);
                int b = leastMate(a, others, most[set]);
                if (a == person) {
                    return b;
                }
                if (b == person) {
                    return a;
                }
                set = b == NOBODY ? others : others & ~(1 << b);
            }
            return NOBODY;
        }

        private int leastMate(int a, int others, int top) {
            for (int b = a + 1; b < MOST_PEOPLE; b++) {
                if ((others >> b & 1) == 1 && together(a, b, others) == top) {
                    return b;
                }
            }
            return NOBODY;
        }

        private int together(int a, int b, int others) {
            return gains[pairNumber(a, b)] + most[others & ~(1 << b)];
        }

        private static int everybody(int people) {
            return (1 << people) - 1;
        }

        private static int leastOf(int set) {
            int least = 0;
            while (least < MOST_PEOPLE - 1 && (set >> least & 1) == 0) {
                least++;
            }
            return least;
        }
    }

    /** A row of numbers; without bits it is missing. */
    private static final class Sheet {
        final int[] numbers = new int[SHEET_NUMBERS];
        int bits = 0;
        int size = 0;

        boolean isMissing() {
            return bits == 0;
        }

        int renew(int newBits, int n) {
            bits = newBits;
            size = newBits == 0 ? 0 : n;
            for (int i = 0; i < size; i++) {
                numbers[i] = 0;
            }
            return size;
        }

        void put(int i, int v) {
            int spare = 32 - bits;
            numbers[i] = v << spare >> spare;
        }

        /** Asked by taking away, since from + n may be above what an int holds. */
        boolean hasRange(int from, int n) {
            return from >= 0 && n >= 0 && n <= size && from <= size - n;
        }
    }

    /** The tape, and its reading token by token. */
    private static final class Reader {
        private static final int END = 0;
        private static final int WORD = 1;
        private static final int NUMBER = 2;
        private static final int SIGN = 3;
        private static final int STRANGE = 4;
        private static final int MOST_NUMBER = 999;

        private final int[] bytes = new int[TAPE_BYTES];
        int length = 0;
        /** The token that is looked at: its sort, its first byte's place, the place behind it. */
        private int sort = END;
        private int start = 0;
        private int behind = 0;
        private int number = 0;

        void append(int value) {
            if (length < TAPE_BYTES) {
                bytes[length] = value;
                length++;
            }
        }

        /** How many items came, or -1 less the fault: the token that can't stand there is looked at then. */
        int readInto(Square square) {
            behind = 0;
            advance();
            for (int items = 1; items <= TAPE_BYTES; items++) {
                if (!readItem(square)) {
                    return -1 - start;
                }
                if (sort == END) {
                    return items;
                }
                if (!isSign(';')) {
                    return -1 - start;
                }
                advance();
            }
            return -1 - start;
        }

        private boolean readItem(Square square) {
            for (int kind = 0; kind < KINDS; kind++) {
                if (isWord(Kinds.nameOf(kind))) {
                    return readPerson(square, kind);
                }
            }
            if (isWord("pair")) {
                return readPair(square);
            }
            return isWord("on") && readSubject(square);
        }

        private boolean readPerson(Square square, int kind) {
            if (square.isCrowded()) {
                return false;
            }
            int person = square.addPerson(kind);
            advance();
            if (isWord("voice")) {
                advance();
                if (!isNumberUpTo(MOST_VOICE)) {
                    return false;
                }
                square.setTrait(person, 1, number);
                advance();
            }
            if (isWord("thinks")) {
                advance();
                return readViews(square, person);
            }
            return true;
        }

        private boolean readViews(Square square, int person) {
            for (int subject = 0; subject < SUBJECTS; subject++) {
                boolean isBelow = isSign('-');
                if (subject > 0 && !isBelow && sort != NUMBER) {
                    return true;
                }
                if (isBelow) {
                    advance();
                }
                if (!isNumberUpTo(MOST_VIEW)) {
                    return false;
                }
                square.setView(person, subject, isBelow ? -number : number);
                advance();
            }
            return true;
        }

        private boolean readPair(Square square) {
            advance();
            if (!isNumberUpTo(square.people - 1)) {
                return false;
            }
            int a = number;
            advance();
            if (!isNumberUpTo(square.people - 1) || number == a) {
                return false;
            }
            square.seat(a, number);
            advance();
            return true;
        }

        private boolean readSubject(Square square) {
            advance();
            if (!isNumberUpTo(SUBJECTS - 1)) {
                return false;
            }
            square.topic = number;
            advance();
            return true;
        }

        private boolean isNumberUpTo(int most) {
            return sort == NUMBER && number <= most;
        }

        private boolean isSign(int sign) {
            return sort == SIGN && bytes[start] == sign;
        }

        private boolean isWord(String word) {
            if (sort != WORD || behind - start != word.length()) {
                return false;
            }
            for (int i = 0; i < word.length(); i++) {
                if (bytes[start + i] != word.charAt(i)) {
                    return false;
                }
            }
            return true;
        }

        private void advance() {
            start = behind;
            while (start < length && bytes[start] == ' ') {
                start++;
            }
            sort = sortAt(start);
            behind = sort == END ? start : start + 1;
            if (sort == WORD || sort == NUMBER) {
                while (behind < length && sortAt(behind) == sort) {
                    behind++;
                }
            }
            readNumber();
        }

        /** It stops growing above all that can stand in a text, so that many digits don't wrap around. */
        private void readNumber() {
            number = 0;
            for (int i = start; i < behind && sort == NUMBER && number <= MOST_NUMBER; i++) {
                number = 10 * number + bytes[i] - '0';
            }
        }

        private int sortAt(int place) {
            if (place >= length) {
                return END;
            }
            int value = bytes[place];
            if (value >= 'a' && value <= 'z') {
                return WORD;
            }
            if (value >= '0' && value <= '9') {
                return NUMBER;
            }
            return value == ';' || value == '-' ? SIGN : STRANGE;
        }
    }
}
