import java.util.Arrays;

/**
 * A class that copies its sums: children of kinds who know, copy and slip, a mistress who marks
 * and sees what is alike, and days that go by.
 */
public final class SumsCopied {

    // Findings, in the order in which status() counts them.
    private static final int BEYOND = -1000001;
    private static final int FULL = -1000002;
    private static final int KIND_FINDING = -1000003;
    private static final int NONE = -1000004;
    private static final int STATE = -1000005;
    private static final int MISSING = -1000006;
    private static final int SIZE = -1000007;
    private static final int FINDINGS = 7;
    /** What a check answers when there is nothing to tell. */
    private static final int FINE = 0;

    private static final int SUMS = 8;
    private static final int ALL_SUMS = 255;
    private static final int MOST_RIGHT = 99;
    private static final int MOST_LIMIT = 9;
    private static final int CHILDREN = 8;
    private static final int MOST_MARKS = 9999;
    private static final int MOST_CAUGHT = 9999;
    private static final int MOST_BISCUITS = 999;
    private static final int FIRST_BISCUITS = 5;
    private static final int LAST_DAY = 99999;
    private static final int MOST_DAYS = 60;
    private static final int MOST_TRIAL_DAYS = 20;
    private static final int MOST_FORBID_DAYS = 12;
    private static final int MOST_TRIAL_BISCUITS = 99;
    private static final int MOST_SEATINGS = 20;
    private static final int MOST_DRAWS = 20;
    private static final int DRAW_REST = 8;

    // What is told of a CHILD, numbered as of() and change() number it.
    private static final int KIND = 0;
    private static final int KNOWS = 1;
    private static final int FROM = 2;
    private static final int MARKS = 3;
    private static final int BISCUITS = 4;
    private static final int CAUGHT = 5;
    private static final int FACTS = 6;

    private static final int CHILD = 0;
    private static final int SLY = 1;
    private static final int SLOPPY = 2;
    private static final int SEVEN = 3;
    private static final int LAZY = 4;
    private static final int HONEST = 5;
    private static final int SELLER = 6;
    private static final int KINDS = 7;
    /** The kind that each kind stands under. */
    private static final int[] UNDER = {-1, CHILD, CHILD, SLOPPY, SEVEN, CHILD, SLY};
    /** BISCUITS that each kind PAYS. */
    private static final int[] PRICES = {1, 1, 2, 2, 2, 0, 0};
    private static final int SELLER_HAS_ENOUGH = 20;

    private static final int NOBODY = -1;
    private static final int NO_ANSWER = -1;
    /** On a sheet that is asked for ANSWERS: any will do. */
    private static final int ANY = -2;

    private static final int SPOTS = 10;
    private static final int SHEETS = 4;
    private static final int SHEET_LENGTH = 40;
    private static final int TAPE_LENGTH = 120;

    private final Room room;
    /** Where days are tried out and texts are read, so that the room itself stays as it is. */
    private final Room trial;
    private final Room kept;
    private boolean keeps;
    private final TextReader tape;
    private final Sheet[] sheets;
    private final int[] found;

    public SumsCopied() {
        room = new Room();
        trial = new Room();
        kept = new Room();
        keeps = false;
        tape = new TextReader();
        sheets = new Sheet[SHEETS];
        for (int s = 0; s < SHEETS; s++) {
            sheets[s] = new Sheet();
        }
        found = new int[FINDINGS];
    }

    // ---- sums, children

    public int right(int sum, int v) {
        if (!within(sum, 0, SUMS - 1) || !within(v, 0, MOST_RIGHT)) {
            return finding(BEYOND);
        }
        int was = room.right[sum];
        room.right[sum] = v;
        return was;
    }

    public int isRight(int sum) {
        if (!within(sum, 0, SUMS - 1)) {
            return finding(BEYOND);
        }
        return room.right[sum];
    }

    public int limit(int v) {
        if (!within(v, 1, MOST_LIMIT)) {
            return finding(BEYOND);
        }
        int was = room.limit;
        room.limit = v;
        return was;
    }

    public int child(int kind, int knows) {
        if (!within(kind, 0, KINDS - 1) || !within(knows, 0, ALL_SUMS)) {
            return finding(BEYOND);
        }
        if (room.children >= CHILDREN) {
            return finding(FULL);
        }
        return room.addChild(kind, knows);
    }

    public int of(int child, int what) {
        if (!room.has(child) || !within(what, 0, 8)) {
            return finding(BEYOND);
        }
        switch (what) {
            case 6:
                return room.price(child);
            case 7:
                return room.isLending(child) ? 1 : 0;
            case 8:
                return room.answeredSums(child);
            default:
                return room.fact(child, what);
        }
    }

    public int change(int child, int what, int v) {
        if (!room.has(child) || !within(what, 0, FACTS - 1) || !canBecome(child, what, v)) {
            return finding(BEYOND);
        }
        int was = room.fact(child, what);
        room.setFact(child, what, v);
        return was;
    }

    public int answer(int child, int sum) {
        if (!room.has(child) || !within(sum, 0, SUMS - 1)) {
            return finding(BEYOND);
        }
        return room.answerOf(child, sum);
    }

    public int slips(int child, int sum, int a) {
        if (!room.has(child) || !within(sum, 0, SUMS - 1) || !within(a, NO_ANSWER, MOST_RIGHT)) {
            return finding(BEYOND);
        }
        return room.slipOf(child, sum, a);
    }

    public int alike(int a, int b) {
        if (!room.has(a) || !room.has(b) || a == b) {
            return finding(BEYOND);
        }
        return room.alikeSums(a, b);
    }

    // ---- days

    public int go(int n) {
        if (!within(n, 1, MOST_DAYS)) {
            return finding(BEYOND);
        }
        if (room.day + n > LAST_DAY) {
            return finding(STATE);
        }
        room.passDays(n);
        return room.total(MARKS);
    }

    public int now(int what) {
        switch (what) {
            case 0:
                return room.day;
            case 1:
                return room.total(MARKS);
            case 2:
                return room.total(CAUGHT);
            case 3:
                return room.total(BISCUITS);
            case 4:
                return room.copiedChildren();
            case 5:
                return room.bestChildren();
            case 6:
                return room.unknownSums();
            default:
                return finding(BEYOND);
        }
    }

    public int chain(int child) {
        if (!room.has(child)) {
            return finding(BEYOND);
        }
        return room.chainLength(child);
    }

    // ---- what will be (nothing changes)

    public int ahead(int child, int what, int n) {
        boolean told = what == KNOWS || what == MARKS || what == BISCUITS || what == CAUGHT;
        if (!room.has(child) || !told || !within(n, 0, MOST_DAYS)) {
            return finding(BEYOND);
        }
        trial.become(room);
        trial.passDays(n);
        return trial.fact(child, what);
    }

    public int writes(int child, int sum, int n) {
        if (!room.has(child) || !within(sum, 0, SUMS - 1) || !within(n, 0, MOST_DAYS)) {
            return finding(BEYOND);
        }
        trial.become(room);
        trial.passDays(n);
        return trial.answerOf(child, sum);
    }

    public int caught(int child) {
        if (!room.has(child)) {
            return finding(BEYOND);
        }
        int days = daysUntil(child, CAUGHT, room.fact(child, CAUGHT) + 1);
        return days == NONE ? finding(NONE) : days;
    }

    public int when(int child, int v) {
        if (!room.has(child) || !within(v, 0, MOST_MARKS)) {
            return finding(BEYOND);
        }
        int days = daysUntil(child, MARKS, v);
        return days == NONE ? finding(NONE) : days;
    }

    // ---- what to do

    public int copyFrom(int child, int n) {
        if (!room.has(child) || !within(n, 0, MOST_TRIAL_DAYS)) {
            return finding(BEYOND);
        }
        int best = NOBODY;
        int most = -1;
        for (int other = 0; other < room.children; other++) {
            int marks = other == child ? -1 : marksWith(child, FROM, other, n);
            if (marks > most) {
                most = marks;
                best = other;
            }
        }
        return marksWith(child, FROM, NOBODY, n) > most ? NOBODY : best;
    }

    public int kindFor(int child, int n) {
        if (!room.has(child) || !within(n, 0, MOST_TRIAL_DAYS)) {
            return finding(BEYOND);
        }
        int best = 0;
        int most = -1;
        for (int kind = 0; kind < KINDS; kind++) {
            int marks = marksWith(child, KIND, kind, n);
            if (marks > most) {
                most = marks;
                best = kind;
            }
        }
        return best;
    }

    public int learn(int child, int n) {
        if (!room.has(child) || !within(n, 0, MOST_TRIAL_DAYS)) {
            return finding(BEYOND);
        }
        int known = room.fact(child, KNOWS);
        int best = 0;
        int most = -1;
        for (int sum = 0; sum < SUMS; sum++) {
            int marks = marksWith(child, KNOWS, known | 1 << sum, n);
            if (marks > most) {
                most = marks;
                best = sum;
            }
        }
        return best;
    }

    public int limitFor(int n) {
        if (!within(n, 0, MOST_TRIAL_DAYS)) {
            return finding(BEYOND);
        }
        for (int limit = 1; limit <= MOST_LIMIT; limit++) {
            trial.become(room);
            trial.limit = limit;
            if (nobodyIsCaughtInTrial(n)) {
                return limit;
            }
        }
        return finding(NONE);
    }

    public int forbid(int n) {
        if (!within(n, 0, MOST_FORBID_DAYS)) {
            return finding(BEYOND);
        }
        // One from whom nobody copies can be left out of any set, so the fewest hold none of these.
        int copied = room.copiedChildren();
        for (int size = 0; size < CHILDREN; size++) {
            for (int set = 0; set <= copied; set++) {
                if ((set & ~copied) == 0 && Integer.bitCount(set) == size) {
                    tryWithoutCopiesFrom(set);
                    if (nobodyIsCaughtInTrial(n)) {
                        return set;
                    }
                }
            }
        }
        // Where nobody copies nobody slips.
        return copied;
    }

    public int biscuitsFor(int child, int n) {
        if (!room.has(child) || !within(n, 0, MOST_TRIAL_DAYS)) {
            return finding(BEYOND);
        }
        int wanted = marksWith(child, BISCUITS, MOST_TRIAL_BISCUITS, n);
        for (int biscuits = 0; biscuits < MOST_TRIAL_BISCUITS; biscuits++) {
            if (marksWith(child, BISCUITS, biscuits, n) == wanted) {
                return biscuits;
            }
        }
        return MOST_TRIAL_BISCUITS;
    }

    // ---- from whom it was

    public int sources(int s, int child) {
        int check = sheetAndChildCheck(s, child);
        if (check != FINE) {
            return finding(check);
        }
        int set = 0;
        for (int other = 0; other < room.children; other++) {
            if (other != child && writesAsAsked(sheets[s], child, FROM, other)) {
                set |= 1 << other;
            }
        }
        return set;
    }

    public int fits(int s, int child) {
        int check = sheetAndChildCheck(s, child);
        if (check != FINE) {
            return finding(check);
        }
        tryDayKnowingNothing(child);
        int sets = 1;
        for (int sum = 0; sum < SUMS; sum++) {
            int ways = 0;
            if (fitsUnknown(sheets[s], child, sum)) {
                ways++;
            }
            if (fitsKnown(sheets[s], sum)) {
                ways++;
            }
            sets *= ways;
        }
        return sets;
    }

    public int knew(int s, int child) {
        int check = sheetAndChildCheck(s, child);
        if (check != FINE) {
            return finding(check);
        }
        tryDayKnowingNothing(child);
        int set = 0;
        for (int sum = 0; sum < SUMS; sum++) {
            if (!fitsUnknown(sheets[s], child, sum)) {
                if (!fitsKnown(sheets[s], sum)) {
                    return finding(NONE);
                }
                set |= 1 << sum;
            }
        }
        return set;
    }

    public int kinds(int s, int child) {
        int check = sheetAndChildCheck(s, child);
        if (check != FINE) {
            return finding(check);
        }
        int set = 0;
        for (int kind = 0; kind < KINDS; kind++) {
            if (writesAsAsked(sheets[s], child, KIND, kind)) {
                set |= 1 << kind;
            }
        }
        return set;
    }

    // ---- seats

    public int seats(int n) {
        if (!within(n, 1, MOST_SEATINGS)) {
            return finding(BEYOND);
        }
        if (room.day + n > LAST_DAY) {
            return finding(STATE);
        }
        for (int i = 0; i < n; i++) {
            int child = room.draw() % DRAW_REST;
            int other = room.draw() % DRAW_REST;
            if (room.has(child) && room.has(other) && child != other) {
                room.setFact(child, FROM, other);
            }
            room.passDays(1);
        }
        return room.total(MARKS);
    }

    public long odds(int child, int n, int what) {
        if (!room.has(child) || !within(n, 0, MOST_DRAWS) || !within(what, 0, 1)) {
            return finding(BEYOND);
        }
        int above = Integer.bitCount(room.fact(child, KNOWS));
        int below = DRAW_REST;
        // The line's lower number is a power of two, so halving is all that can be cut.
        while (below > 1 && above % 2 == 0) {
            above /= 2;
            below /= 2;
        }
        return power(what == 0 ? above : below, n);
    }

    public int seed(int v) {
        int was = room.z;
        room.z = v;
        return was;
    }

    // ---- texts

    public int feed(int bytes, int n) {
        if (!within(n, 1, 4)) {
            return finding(BEYOND);
        }
        if (tape.length + n > TAPE_LENGTH) {
            return finding(FULL);
        }
        for (int i = n - 1; i >= 0; i--) {
            tape.append(bytes >> 8 * i);
        }
        return tape.length;
    }

    public int wipe() {
        int had = tape.length;
        tape.length = 0;
        return had;
    }

    public int text() {
        trial.become(room);
        int told = tape.readInto(trial);
        if (told >= 0) {
            room.become(trial);
        }
        tape.length = 0;
        return told;
    }

    // ---- spots, sheets

    public int hold(int spot, int child) {
        if (!within(spot, 0, SPOTS - 1) || child != NOBODY && !room.has(child)) {
            return finding(BEYOND);
        }
        room.spots[spot] = child;
        return 1;
    }

    public int as(int spot, int kind) {
        if (!within(spot, 0, SPOTS - 1) || !within(kind, 0, KINDS - 1)) {
            return finding(BEYOND);
        }
        int child = room.spots[spot];
        if (!room.has(child)) {
            return finding(MISSING);
        }
        if (!isUnder(room.fact(child, KIND), kind)) {
            return finding(KIND_FINDING);
        }
        return child;
    }

    public int sheet(int s, int bits, int n) {
        boolean known = bits == 0 || bits == 8 || bits == 16 || bits == 32;
        if (!within(s, 0, SHEETS - 1) || !known) {
            return finding(BEYOND);
        }
        if (n < 0) {
            return finding(SIZE);
        }
        if (n > SHEET_LENGTH) {
            return finding(BEYOND);
        }
        sheets[s].renew(bits, bits == 0 ? 0 : n);
        return sheets[s].length;
    }

    public int write(int s, int i, int v) {
        int check = sheetCheck(s);
        if (check != FINE) {
            return finding(check);
        }
        if (!within(i, 0, sheets[s].length - 1)) {
            return finding(BEYOND);
        }
        sheets[s].put(i, v);
        return 1;
    }

    public int copy(int s, int from, int t, int to, int n) {
        if (!within(s, 0, SHEETS - 1) || !within(t, 0, SHEETS - 1)) {
            return finding(BEYOND);
        }
        Sheet source = sheets[s];
        Sheet target = sheets[t];
        if (source.isMissing() || target.isMissing()) {
            return finding(MISSING);
        }
        if (source.bits != target.bits) {
            return finding(KIND_FINDING);
        }
        if (!source.hasPart(from, n) || !target.hasPart(to, n)) {
            return finding(BEYOND);
        }
        System.arraycopy(source.numbers, from, target.numbers, to, n);
        return n;
    }

    public int load(int s) {
        int check = sheetCheck(s);
        if (check != FINE) {
            return finding(check);
        }
        int came = 0;
        while (came < SUMS && came < sheets[s].length && within(sheets[s].numbers[came], 0, MOST_RIGHT)) {
            room.right[came] = sheets[s].numbers[came];
            came++;
        }
        return came;
    }

    public int judge(int s) {
        int check = sheetCheck(s);
        if (check != FINE) {
            return finding(check);
        }
        for (int i = 0; i < sheets[s].length; i++) {
            if (!room.has(i) || room.fact(i, MARKS) != sheets[s].numbers[i]) {
                return 1 + i;
            }
        }
        return 0;
    }

    // ---- images

    public int image() {
        kept.become(room);
        keeps = true;
        return 1;
    }

    public int undo() {
        if (!keeps) {
            return finding(NONE);
        }
        room.become(kept);
        return room.day;
    }

    public int tear() {
        int torn = keeps ? 1 : 0;
        keeps = false;
        return torn;
    }

    public int count(int what) {
        switch (what) {
            case 0:
                return room.day;
            case 1:
                return room.children;
            case 2:
                return room.total(MARKS);
            case 3:
                return room.total(CAUGHT);
            case 4:
                return room.total(BISCUITS);
            case 5:
                return tape.length;
            case 6:
                return room.z;
            case 7:
                return room.takenSpots();
            default:
                return finding(BEYOND);
        }
    }

    public int status(int which) {
        if (!within(which, -1, FINDINGS - 1)) {
            return finding(BEYOND);
        }
        if (which >= 0) {
            return found[which];
        }
        int all = 0;
        for (int i = 0; i < FINDINGS; i++) {
            all += found[i];
        }
        return all;
    }

    // ---- findings and checks

    private int finding(int which) {
        int place = BEYOND - which;
        if (within(place, 0, FINDINGS - 1)) {
            found[place]++;
        }
        return which;
    }

    private static boolean within(int v, int least, int most) {
        return v >= least && v <= most;
    }

    private boolean canBecome(int child, int what, int v) {
        switch (what) {
            case KIND:
                return within(v, 0, KINDS - 1);
            case KNOWS:
                return within(v, 0, ALL_SUMS);
            case FROM:
                return v == NOBODY || room.has(v) && v != child;
            case MARKS:
                return within(v, 0, MOST_MARKS);
            case BISCUITS:
                return within(v, 0, MOST_BISCUITS);
            default:
                return within(v, 0, MOST_CAUGHT);
        }
    }

    private int sheetCheck(int s) {
        if (!within(s, 0, SHEETS - 1)) {
            return BEYOND;
        }
        return sheets[s].isMissing() ? MISSING : FINE;
    }

    private int sheetAndChildCheck(int s, int child) {
        int check = sheetCheck(s);
        if (check != FINE) {
            return check;
        }
        return room.has(child) ? FINE : BEYOND;
    }

    // ---- trials

    /** DAYS (0 to 60) behind which a fact of a CHILD is v or more, or NONE. */
    private int daysUntil(int child, int what, int v) {
        trial.become(room);
        for (int days = 0; days <= MOST_DAYS; days++) {
            if (trial.fact(child, what) >= v) {
                return days;
            }
            trial.passDays(1);
        }
        return NONE;
    }

    /** MARKS of a CHILD behind n DAYS if one of its facts is another one now. */
    private int marksWith(int child, int what, int v, int n) {
        trial.become(room);
        trial.setFact(child, what, v);
        trial.passDays(n);
        return trial.fact(child, MARKS);
    }

    private boolean nobodyIsCaughtInTrial(int n) {
        int before = room.total(CAUGHT);
        for (int i = 0; i < n; i++) {
            trial.passDays(1);
            // CAUGHT never becomes less, so later days can't mend it.
            if (trial.total(CAUGHT) != before) {
                return false;
            }
        }
        return true;
    }

    private void tryWithoutCopiesFrom(int forbidden) {
        trial.become(room);
        for (int child = 0; child < trial.children; child++) {
            int from = trial.fact(child, FROM);
            if (from != NOBODY && (forbidden >> from & 1) == 1) {
                trial.setFact(child, FROM, NOBODY);
            }
        }
    }

    /** Whether a CHILD would write on the next DAY what is asked if one of its facts were another one. */
    private boolean writesAsAsked(Sheet asked, int child, int what, int v) {
        trial.become(room);
        trial.setFact(child, what, v);
        trial.passDays(1);
        for (int sum = 0; sum < SUMS; sum++) {
            if (!asked.allows(sum, trial.answerOf(child, sum))) {
                return false;
            }
        }
        return true;
    }

    /**
     * Tries the next DAY with a CHILD that KNOWS nothing. What it KNOWS changes none of the ANSWERS
     * that it copies, so each SUM can be looked at alone: copied, as in the trial, or RIGHT.
     */
    private void tryDayKnowingNothing(int child) {
        trial.become(room);
        trial.setFact(child, KNOWS, 0);
        trial.passDays(1);
    }

    private boolean fitsUnknown(Sheet asked, int child, int sum) {
        return asked.allows(sum, trial.answerOf(child, sum));
    }

    private boolean fitsKnown(Sheet asked, int sum) {
        return asked.allows(sum, room.right[sum]);
    }

    private static long power(int base, int n) {
        long product = 1;
        for (int i = 0; i < n; i++) {
            product *= base;
        }
        return product;
    }

    private static boolean isUnder(int kind, int above) {
        int at = kind;
        for (int steps = 0; steps < KINDS && within(at, 0, KINDS - 1); steps++) {
            if (at == above) {
                return true;
            }
            at = UNDER[at];
        }
        return false;
    }

    /** All that an image keeps: SUMS, CHILDREN, DAY, draws, SPOTS. */
    private static final class Room {
        final int[] right = new int[SUMS];
        final int[] facts = new int[CHILDREN * FACTS];
        final int[] answers = new int[CHILDREN * SUMS];
        final int[] spots = new int[SPOTS];
        // Noted while CHILDREN write, for the marking of the same DAY: SUMS answered wrongly, how many are RIGHT.
        final int[] wrong = new int[CHILDREN];
        final int[] gained = new int[CHILDREN];
        int limit = 2;
        int children = 0;
        int day = 0;
        int z = 1;

        Room() {
            for (int sum = 0; sum < SUMS; sum++) {
                right[sum] = 11 * sum + 14;
            }
            Arrays.fill(spots, NOBODY);
        }

        void become(Room other) {
            System.arraycopy(other.right, 0, right, 0, SUMS);
            System.arraycopy(other.facts, 0, facts, 0, CHILDREN * FACTS);
            System.arraycopy(other.answers, 0, answers, 0, CHILDREN * SUMS);
            System.arraycopy(other.spots, 0, spots, 0, SPOTS);
            limit = other.limit;
            children = other.children;
            day = other.day;
            z = other.z;
        }

        boolean has(int child) {
            return child >= 0 && child < children;
        }

        int fact(int child, int what) {
            return facts[child * FACTS + what];
        }

        void setFact(int child, int what, int v) {
            facts[child * FACTS + what] = v;
        }

        int answerOf(int child, int sum) {
            return answers[child * SUMS + sum];
        }

        /** The caller has seen that there is a place. */
        int addChild(int kind, int knows) {
            int child = children;
            setFact(child, KIND, kind);
            setFact(child, KNOWS, knows);
            setFact(child, FROM, NOBODY);
            setFact(child, MARKS, 0);
            setFact(child, BISCUITS, FIRST_BISCUITS);
            setFact(child, CAUGHT, 0);
            for (int sum = 0; sum < SUMS; sum++) {
                answers[child * SUMS + sum] = NO_ANSWER;
            }
            children++;
            return child;
        }

        int total(int what) {
            int all = 0;
            for (int child = 0; child < children; child++) {
                all += fact(child, what);
            }
            return all;
        }

        // ---- what kinds do

        int price(int child) {
            return PRICES[fact(child, KIND)];
        }

        boolean isLending(int child) {
            switch (fact(child, KIND)) {
                case HONEST:
                    return false;
                case LAZY:
                    return day % 2 == 0;
                case SELLER:
                    return fact(child, BISCUITS) < SELLER_HAS_ENOUGH;
                default:
                    return true;
            }
        }

        int slipOf(int child, int sum, int a) {
            if (a == NO_ANSWER) {
                return NO_ANSWER;
            }
            switch (fact(child, KIND)) {
                case CHILD:
                    return a;
                case SLY:
                case SELLER:
                    return sum % 4 == 0 ? NO_ANSWER : a;
                case SLOPPY:
                    return exchanged(sum, a);
                case SEVEN:
                    return onesForSevens(exchanged(sum, a));
                case LAZY:
                    return day % 2 == 0 ? onesForSevens(exchanged(sum, a)) : NO_ANSWER;
                default:
                    return NO_ANSWER;
            }
        }

        static int exchanged(int sum, int a) {
            return sum % 2 == 0 ? a : a % 10 * 10 + a / 10;
        }

        static int onesForSevens(int a) {
            int tens = a / 10 == 7 ? 1 : a / 10;
            int ones = a % 10 == 7 ? 1 : a % 10;
            return tens * 10 + ones;
        }

        // ---- a DAY

        void passDays(int n) {
            for (int i = 0; i < n; i++) {
                for (int child = 0; child < children; child++) {
                    writeAnswers(child);
                }
                markAnswers();
                turnDay();
            }
        }

        void writeAnswers(int child) {
            int source = sourceToday(child);
            int known = fact(child, KNOWS);
            int wrongNow = 0;
            int rightNow = 0;
            for (int sum = 0; sum < SUMS; sum++) {
                int a = NO_ANSWER;
                if ((known >> sum & 1) == 1) {
                    a = right[sum];
                } else if (source != NOBODY) {
                    a = slipOf(child, sum, answerOf(source, sum));
                }
                answers[child * SUMS + sum] = a;
                if (a == right[sum]) {
                    rightNow++;
                } else if (a != NO_ANSWER) {
                    wrongNow |= 1 << sum;
                }
            }
            wrong[child] = wrongNow;
            gained[child] = rightNow;
            if (source != NOBODY) {
                payFor(child, source);
            }
        }

        /** From whom a CHILD does copy today, which it may be kept from. */
        int sourceToday(int child) {
            int from = fact(child, FROM);
            boolean copies = has(from) && isLending(from) && fact(child, BISCUITS) >= price(child);
            return copies ? from : NOBODY;
        }

        void payFor(int child, int source) {
            int price = price(child);
            setFact(child, BISCUITS, fact(child, BISCUITS) - price);
            setFact(source, BISCUITS, Math.min(MOST_BISCUITS, fact(source, BISCUITS) + price));
        }

        void markAnswers() {
            int caughtToday = childrenAlike();
            for (int child = 0; child < children; child++) {
                if ((caughtToday >> child & 1) == 1) {
                    setFact(child, CAUGHT, Math.min(MOST_CAUGHT, fact(child, CAUGHT) + 1));
                    setFact(child, KNOWS, fact(child, KNOWS) | 1 << day % SUMS);
                } else {
                    setFact(child, MARKS, Math.min(MOST_MARKS, fact(child, MARKS) + gained[child]));
                }
            }
        }

        void turnDay() {
            for (int sum = 0; sum < SUMS; sum++) {
                right[sum] = (3 * right[sum] + sum + 1) % 100;
            }
            day = Math.min(LAST_DAY, day + 1);
        }

        /** CHILDREN who have LIMIT or more ALIKE with another one, as a set. */
        int childrenAlike() {
            int set = 0;
            for (int a = 0; a < children; a++) {
                for (int b = a + 1; b < children; b++) {
                    int both = wrong[a] & wrong[b];
                    if (Integer.bitCount(both) >= limit && Integer.bitCount(sameAmong(both, a, b)) >= limit) {
                        set |= 1 << a | 1 << b;
                    }
                }
            }
            return set;
        }

        int alikeSums(int a, int b) {
            return sameAmong(wrongSums(a) & wrongSums(b), a, b);
        }

        int sameAmong(int sums, int a, int b) {
            int set = 0;
            for (int sum = 0; sum < SUMS; sum++) {
                if ((sums >> sum & 1) == 1 && answerOf(a, sum) == answerOf(b, sum)) {
                    set |= 1 << sum;
                }
            }
            return set;
        }

        int wrongSums(int child) {
            int set = 0;
            for (int sum = 0; sum < SUMS; sum++) {
                int a = answerOf(child, sum);
                if (a != NO_ANSWER && a != right[sum]) {
                    set |= 1 << sum;
                }
            }
            return set;
        }

        int draw() {
            z = z * 1103515245 + 12345;
            return z >>> 8;
        }

        // ---- what is to be seen

        int answeredSums(int child) {
            int set = 0;
            for (int sum = 0; sum < SUMS; sum++) {
                if (answerOf(child, sum) != NO_ANSWER) {
                    set |= 1 << sum;
                }
            }
            return set;
        }

        int copiedChildren() {
            int set = 0;
            for (int child = 0; child < children; child++) {
                int from = fact(child, FROM);
                if (from != NOBODY) {
                    set |= 1 << from;
                }
            }
            return set;
        }

        int bestChildren() {
            int set = 0;
            int most = -1;
            for (int child = 0; child < children; child++) {
                int marks = fact(child, MARKS);
                if (marks > most) {
                    most = marks;
                    set = 0;
                }
                if (marks == most) {
                    set |= 1 << child;
                }
            }
            return set;
        }

        int unknownSums() {
            int known = 0;
            for (int child = 0; child < children; child++) {
                known |= fact(child, KNOWS);
            }
            return ALL_SUMS & ~known;
        }

        /** Eight steps are more than a way without a round can have. */
        int chainLength(int child) {
            int at = child;
            for (int steps = 0; steps < CHILDREN; steps++) {
                int from = fact(at, FROM);
                if (!has(from)) {
                    return steps;
                }
                at = from;
            }
            return CHILDREN;
        }

        int takenSpots() {
            int many = 0;
            for (int spot = 0; spot < SPOTS; spot++) {
                if (spots[spot] != NOBODY) {
                    many++;
                }
            }
            return many;
        }
    }

    /** A row of numbers, MISSING while it has no bits. */
    private static final class Sheet {
        final int[] numbers = new int[SHEET_LENGTH];
        int bits = 0;
        int length = 0;

        boolean isMissing() {
            return bits == 0;
        }

        void renew(int newBits, int newLength) {
            bits = newBits;
            length = newLength;
            Arrays.fill(numbers, 0);
        }

        void put(int i, int v) {
            switch (bits) {
                case 8:
                    numbers[i] = (byte) v;
                    break;
                case 16:
                    numbers[i] = (short) v;
                    break;
                default:
                    numbers[i] = v;
                    break;
            }
        }

        boolean hasPart(int from, int n) {
            return from >= 0 && n >= 0 && from <= length - n;
        }

        boolean allows(int sum, int a) {
            return sum >= length || numbers[sum] == ANY || numbers[sum] == a;
        }
    }

    /** THE TAPE, and how a TEXT is read from it, TOKEN by TOKEN. */
    private static final class TextReader {
        // WORDS as their letters, eight bits each: none that counts has more than eight letters.
        private static final long[] KIND_WORDS = {
            0x6368696C64L, // child
            0x736C79L, // sly
            0x736C6F707079L, // sloppy
            0x736576656EL, // seven
            0x6C617A79L, // lazy
            0x686F6E657374L, // honest
            0x73656C6C6572L, // seller
        };
        private static final long KNOWS_WORD = 0x6B6E6F7773L;
        private static final long FROM_WORD = 0x66726F6DL;
        private static final long BISCUITS_WORD = 0x6269736375697473L;
        private static final long RIGHT_WORD = 0x7269676874L;
        private static final long LIMIT_WORD = 0x6C696D6974L;
        private static final int LONGEST_WORD = 8;
        private static final long NO_WORD = 0;
        private static final int NO_NUMBER = -1;
        private static final int MOST_NUMBER = 999;

        // Sorts of TOKENS.
        private static final int END = 0;
        private static final int WORD = 1;
        private static final int NUMBER = 2;
        private static final int SIGN = 3;
        private static final int OTHER = 4;

        final byte[] bytes = new byte[TAPE_LENGTH];
        int length = 0;

        // The TOKEN that is looked at: its first byte, the first byte behind it, its sort and worth.
        int place = 0;
        int behind = 0;
        int sort = END;
        long word = NO_WORD;
        int number = NO_NUMBER;

        /** The caller has seen that there is a place. */
        void append(int v) {
            bytes[length] = (byte) v;
            length++;
        }

        /** How many ITEMS became so in a room, or -1 less the FAULT. */
        int readInto(Room r) {
            behind = 0;
            nextToken();
            // Each ITEM has a byte or more.
            for (int items = 1; items <= TAPE_LENGTH + 1; items++) {
                if (!readItem(r)) {
                    return -1 - place;
                }
                if (sort == END) {
                    return items;
                }
                if (sort != SIGN) {
                    return -1 - place;
                }
                nextToken();
            }
            return -1 - place;
        }

        /** Whether an ITEM stood there; if not, the TOKEN that is looked at is the one that can't. */
        boolean readItem(Room r) {
            if (word == RIGHT_WORD) {
                return readRight(r);
            }
            if (word == LIMIT_WORD) {
                return readLimit(r);
            }
            for (int kind = 0; kind < KINDS; kind++) {
                if (word == KIND_WORDS[kind]) {
                    return readChild(r, kind);
                }
            }
            return false;
        }

        boolean readRight(Room r) {
            nextToken();
            if (!isNumber(0, SUMS - 1)) {
                return false;
            }
            int sum = number;
            nextToken();
            if (!isNumber(0, MOST_RIGHT)) {
                return false;
            }
            r.right[sum] = number;
            nextToken();
            return true;
        }

        boolean readLimit(Room r) {
            nextToken();
            if (!isNumber(1, MOST_LIMIT)) {
                return false;
            }
            r.limit = number;
            nextToken();
            return true;
        }

        boolean readChild(Room r, int kind) {
            if (r.children >= CHILDREN) {
                return false;
            }
            int child = r.addChild(kind, 0);
            nextToken();
            return readPerhaps(r, child, KNOWS_WORD, KNOWS, ALL_SUMS)
                && readPerhaps(r, child, FROM_WORD, FROM, child - 1)
                && readPerhaps(r, child, BISCUITS_WORD, BISCUITS, MOST_BISCUITS);
        }

        boolean readPerhaps(Room r, int child, long name, int what, int most) {
            if (word != name) {
                return true;
            }
            nextToken();
            if (!isNumber(0, most)) {
                return false;
            }
            r.setFact(child, what, number);
            nextToken();
            return true;
        }

        boolean isNumber(int least, int most) {
            return sort == NUMBER && number >= least && number <= most;
        }

        // ---- TOKENS

        void nextToken() {
            while (behind < length && bytes[behind] == ' ') {
                behind++;
            }
            place = behind;
            word = NO_WORD;
            number = NO_NUMBER;
            if (place >= length) {
                sort = END;
            } else if (bytes[place] >= 'a' && bytes[place] <= 'z') {
                takeWord();
            } else if (bytes[place] >= '0' && bytes[place] <= '9') {
                takeNumber();
            } else {
                sort = bytes[place] == ';' ? SIGN : OTHER;
                behind++;
            }
        }

        void takeWord() {
            sort = WORD;
            while (behind < length && bytes[behind] >= 'a' && bytes[behind] <= 'z') {
                word = word << 8 | bytes[behind];
                behind++;
            }
            if (behind - place > LONGEST_WORD) {
                word = NO_WORD;
            }
        }

        void takeNumber() {
            sort = NUMBER;
            number = 0;
            while (behind < length && bytes[behind] >= '0' && bytes[behind] <= '9') {
                // Once it is too great it stays so, however many digits follow.
                if (number <= MOST_NUMBER) {
                    number = number * 10 + bytes[behind] - '0';
                }
                behind++;
            }
        }
    }
}
