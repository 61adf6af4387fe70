import java.lang.reflect.InvocationTargetException;
import java.lang.reflect.Method;
import java.lang.reflect.Modifier;

/** Promises 1 to 45: each sentence that names a boundary case has a test of its own here. */
public final class PromisesEdgesTest {
    private static final int BEYOND = -1000001;
    private static final int FULL = -1000002;
    private static final int KIND = -1000003;
    private static final int NONE = -1000004;
    private static final int STATE = -1000005;
    private static final int MISSING = -1000006;
    private static final int SIZE = -1000007;
    private static final int MOST = Integer.MAX_VALUE;
    private static final int LEAST = Integer.MIN_VALUE;

    private static int promise = 0;
    private static String sentence = "";
    private static int sentences = 0;
    private static int rows = 0;
    private static int wrong = 0;

    private static void says(int number, String words) {
        promise = number;
        sentence = words;
        sentences++;
    }

    private static void due(String call, long got, long want) {
        rows++;
        if (got != want) {
            wrong++;
            System.out.println("promise " + promise + " '" + sentence + "': " + call + " answered " + got
                + ", due is " + want);
        }
    }

    /** A new object, and what texts tell it; each is read by itself, for a tape has no more than 120 bytes. */
    private static SumsCopied told(String... texts) {
        SumsCopied x = new SumsCopied();
        for (String text : texts) {
            due("text() of '" + text + "'", read(x, text), text.split(";").length);
        }
        return x;
    }

    private static int read(SumsCopied x, String text) {
        feedAll(x, text);
        return x.text();
    }

    private static void feedAll(SumsCopied x, String text) {
        for (int i = 0; i < text.length(); ) {
            int n = Math.min(4, text.length() - i);
            int together = 0;
            for (int j = 0; j < n; j++) {
                together = together << 8 | text.charAt(i + j);
            }
            x.feed(together, n);
            i += n;
        }
    }

    private static void fill(SumsCopied x, int s, int bits, int... numbers) {
        x.sheet(s, bits, numbers.length);
        for (int i = 0; i < numbers.length; i++) {
            x.write(s, i, numbers[i]);
        }
    }

    /** More than the 512 calls that are promised, for there is no shorter way to the last DAYS. */
    private static void goTo(SumsCopied x, int day) {
        while (x.now(0) < day) {
            x.go(Math.min(60, day - x.now(0)));
        }
    }

    /** One who KNOWS all, and two SLOPPY ones with many BISCUITS who copy from it: four SLIPS ALIKE on DAY 0. */
    private static SumsCopied copiers() {
        return told("child knows 255;sloppy from 0 biscuits 99;sloppy from 0 biscuits 99");
    }

    /**
     * LIMIT 1, one who KNOWS all and two SEVENS who copy from it. They KNOW SUMS 0, 1, 3, 5, 7, and what is RIGHT of 2
     * and 4 goes round without a digit 7. Of SUM 6 it goes 2, 13, 46, 45, 42, 33, 6, 25, 82, 53, 66, 5, 22, 73, 26, 85,
     * 62, 93, 86, 65 and round, so both slip, alike, on the DAY of the 73 alone.
     */
    private static SumsCopied slippingOnceInTwenty(int rightOfSix) {
        return told("limit 1;right 2 11;right 4 10;right 6 " + rightOfSix,
            "child knows 255;seven knows 171 from 0 biscuits 99;seven knows 171 from 0 biscuits 99");
    }

    private static final int ON_THE_12TH = 46;
    private static final int ON_THE_20TH = 26;

    /** Three pairs of SEVENS: what one of a pair learns when caught is copied, in time, by the next pair. */
    private static SumsCopied firstCaughtBehind67() {
        return told("limit 1;right 0 63;right 2 50;right 6 39;child knows 4",
            "seven from 0 biscuits 999;seven from 0 biscuits 999",
            "seven knows 190 from 1 biscuits 999;seven knows 190 from 1 biscuits 999",
            "seven knows 191 from 3 biscuits 999;seven knows 191 from 3 biscuits 999");
    }

    public static void main(String[] args) throws IllegalAccessException {
        sumsAndChildren();
        days();
        ahead();
        advice();
        guesses();
        seatsAndOdds();
        texts();
        spotsAndSheets();
        images();
        anyArguments();
        System.out.println(sentences + " sentences, " + rows + " rows, " + wrong + " wrong");
        if (wrong != 0) {
            System.exit(1);
        }
    }

    private static void sumsAndChildren() {
        newObject();
        right();
        isRight();
        limit();
        childBeyond();
        childFull();
        of();
        ofNobody();
        ofAnsweredSums();
        changeEach();
        changeNotItself();
        changeBeyond();
        answer();
        slips();
        alikeNow();
        alikeBeyond();
    }

    private static void days() {
        goDays();
        goState();
        nowEach();
        nowCopied();
        nowMost();
        nowUnknown();
        chainSteps();
        chainRound();
    }

    private static void ahead() {
        aheadWhat();
        aheadDays();
        writesDays();
        caughtDays();
        caughtNone();
        whenDays();
        whenMarks();
    }

    private static void advice() {
        copyFromNobodyLast();
        copyFromDays();
        kindForDays();
        learnDays();
        learnBesides();
        limitForLeast();
        limitForDays();
        forbidFewest();
        forbidLeast();
        forbidNobodyCopies();
        forbidDays();
        biscuitsForFewest();
        biscuitsForDays();
    }

    private static void guesses() {
        sourcesAny();
        sourcesFirstEight();
        sourcesFindings();
        fitsSets();
        fitsFindings();
        knewLeast();
        knewNone();
        kindsEach();
        kindsFindings();
    }

    private static void seatsAndOdds() {
        seatsTimes();
        seatsSuchAndUnlike();
        seatsState();
        oddsDraws();
        oddsLowestTerms();
        seedAny();
    }

    private static void texts() {
        feedOrder();
        feedBeyond();
        feedFull();
        wipe();
        textCounts();
        textFault();
    }

    private static void spotsAndSheets() {
        holdNothing();
        holdBeyond();
        asKind();
        asMissing();
        sheetZeros();
        sheetMissing();
        sheetBeyond();
        sheetSize();
        writeLowestBits();
        writeBeyond();
        copyAsTheyWere();
        copyFindings();
        copyBeyond();
        loadEnds();
        loadFindings();
        judgeFirst();
        judgeFindings();
    }

    private static void images() {
        imageKeeps();
        imageLeavesTapeAndSheets();
        undoLatest();
        undoNone();
        tear();
        countEach();
        statusEach();
        statusBeyond();
    }

    // ---- sums, children

    private static void newObject() {
        says(1, "All as at first; no CHILDREN; THE TAPE is empty, no image is kept.");
        SumsCopied x = new SumsCopied();
        int[] counts = {0, 0, 0, 0, 0, 0, 1, 0};
        for (int what = 0; what < 8; what++) {
            due("count(" + what + ")", x.count(what), counts[what]);
            due("isRight(" + what + ")", x.isRight(what), 14 + 11 * what);
        }
        due("of(0, 0)", x.of(0, 0), BEYOND);
        due("limit(2)", x.limit(2), 2);
        due("wipe()", x.wipe(), 0);
        due("text()", x.text(), -1);
        due("tear()", x.tear(), 0);
        due("undo()", x.undo(), NONE);
        for (int spot = 0; spot < 10; spot++) {
            due("as(" + spot + ", 0)", x.as(spot, 0), MISSING);
        }
        for (int s = 0; s < 4; s++) {
            due("judge(" + s + ")", x.judge(s), MISSING);
        }
        SumsCopied used = told("child;limit 5");
        due("another object is as at first", new SumsCopied().limit(1), 2);
        due("count(1)", used.count(1), 1);
    }

    private static void right() {
        says(2, "What is RIGHT of a SUM becomes v: what it was. BEYOND.");
        SumsCopied x = new SumsCopied();
        int[][] beyond = {{-1, 5}, {8, 5}, {0, -1}, {0, 100}, {MOST, 5}, {LEAST, 5}, {3, MOST}, {3, LEAST}, {8, 100}};
        for (int[] p : beyond) {
            due("right(" + p[0] + ", " + p[1] + ")", x.right(p[0], p[1]), BEYOND);
        }
        for (int s = 0; s < 8; s++) {
            due("right(" + s + ", 0)", x.right(s, 0), 14 + 11 * s);
            due("right(" + s + ", 99)", x.right(s, 99), 0);
            due("right(" + s + ", 99), as it is", x.right(s, 99), 99);
        }
        due("status(0)", x.status(0), beyond.length);
    }

    private static void isRight() {
        says(3, "What is RIGHT of a SUM. BEYOND.");
        SumsCopied x = new SumsCopied();
        int[] beyond = {-1, 8, 9, MOST, LEAST};
        for (int s : beyond) {
            due("isRight(" + s + ")", x.isRight(s), BEYOND);
        }
        due("isRight(0)", x.isRight(0), 14);
        due("isRight(7)", x.isRight(7), 91);
        x.right(7, 0);
        due("isRight(7)", x.isRight(7), 0);
        due("isRight(6)", x.isRight(6), 80);
    }

    private static void limit() {
        says(4, "LIMIT becomes v: what it was. BEYOND.");
        SumsCopied x = new SumsCopied();
        int[] beyond = {0, 10, -1, MOST, LEAST};
        for (int v : beyond) {
            due("limit(" + v + ")", x.limit(v), BEYOND);
        }
        due("limit(1)", x.limit(1), 2);
        due("limit(9)", x.limit(9), 1);
        due("limit(9)", x.limit(9), 9);
    }

    private static void childBeyond() {
        says(5, "A new CHILD: the number. BEYOND.");
        SumsCopied x = new SumsCopied();
        int[][] beyond = {{-1, 0}, {7, 0}, {0, -1}, {0, 256}, {MOST, 0}, {LEAST, 0}, {0, MOST}, {0, LEAST}};
        for (int[] p : beyond) {
            due("child(" + p[0] + ", " + p[1] + ")", x.child(p[0], p[1]), BEYOND);
        }
        due("count(1)", x.count(1), 0);
        due("child(0, 0)", x.child(0, 0), 0);
        due("child(6, 255)", x.child(6, 255), 1);
        int[] first = {6, 255, -1, 0, 5, 0, 0, 1, 0};
        for (int what = 0; what < 9; what++) {
            due("of(1, " + what + ")", x.of(1, what), first[what]);
        }
    }

    private static void childFull() {
        says(5, "FULL.");
        SumsCopied x = told("child;child;child;child;child;child;child");
        due("child(6, 255), the 8th", x.child(6, 255), 7);
        due("child(0, 0), the 9th", x.child(0, 0), FULL);
        due("child(0, 0), the 9th", x.child(0, 0), FULL);
        due("status(1)", x.status(1), 2);
        // One that was there when there were fewer is new again, with no ANSWERS.
        SumsCopied y = told("child");
        y.image();
        y.child(0, 255);
        y.go(1);
        y.change(1, 2, 0);
        y.undo();
        due("child(0, 0)", y.child(0, 0), 1);
        due("of(1, 2)", y.of(1, 2), -1);
        due("of(1, 3)", y.of(1, 3), 0);
        due("of(1, 8)", y.of(1, 8), 0);
    }

    private static void of() {
        says(6, "Of a CHILD: what 0 KIND, 1 KNOWS, 2 FROM (-1: nobody), 3 MARKS, 4 BISCUITS, 5 CAUGHT, 6 PAYS,"
            + " 7 LENDS (1, 0), 8 SUMS to which its ANSWER isn't -1, as a set.");
        SumsCopied x = copiers();
        x.go(1);
        int[][] want = {{0, 255, -1, 8, 9, 0, 1, 1, 255}, {2, 1, 0, 0, 97, 1, 2, 1, 255}};
        for (int c = 0; c < 2; c++) {
            for (int what = 0; what < 9; what++) {
                due("of(" + c + ", " + what + ")", x.of(c, what), want[c][what]);
            }
        }
        x.change(0, 0, 5);
        due("of(0, 7), HONEST", x.of(0, 7), 0);
    }

    private static void ofNobody() {
        says(6, "as a set. BEYOND.");
        SumsCopied x = told("child;child");
        int[] children = {-1, 2, 8, MOST, LEAST};
        for (int c : children) {
            due("of(" + c + ", 0)", x.of(c, 0), BEYOND);
            due("of(" + c + ", 8)", x.of(c, 8), BEYOND);
        }
        int[] whats = {-1, 9, MOST, LEAST};
        for (int what : whats) {
            due("of(0, " + what + ")", x.of(0, what), BEYOND);
        }
    }

    private static void ofAnsweredSums() {
        says(6, "8 SUMS to which its ANSWER isn't -1, as a set.");
        SumsCopied x = told("child knows 255;child;child knows 129;sly from 0;right 0 0;right 1 0");
        for (int c = 0; c < 4; c++) {
            due("of(" + c + ", 8), at first", x.of(c, 8), 0);
        }
        x.go(1);
        int[] want = {255, 0, 129, 238};
        for (int c = 0; c < 4; c++) {
            due("of(" + c + ", 8), an ANSWER 0 is one", x.of(c, 8), want[c]);
        }
    }

    private static void changeEach() {
        says(7, "KIND (what 0), KNOWS (1), FROM (2; -1, too; not itself), MARKS (3), BISCUITS (4), CAUGHT (5) of a CHILD"
            + " becomes v: what it was.");
        SumsCopied x = told("child;child;child");
        int[] least = {0, 0, -1, 0, 0, 0};
        int[] first = {0, 0, -1, 0, 5, 0};
        int[] most = {6, 255, 2, 9999, 999, 9999};
        for (int what = 0; what < 6; what++) {
            due("change(1, " + what + ", most)", x.change(1, what, most[what]), first[what]);
            due("change(1, " + what + ", most and 1)", x.change(1, what, most[what] + 1), BEYOND);
            due("change(1, " + what + ", MOST)", x.change(1, what, MOST), BEYOND);
            due("change(1, " + what + ", least)", x.change(1, what, least[what]), most[what]);
            due("change(1, " + what + ", least less 1)", x.change(1, what, least[what] - 1), BEYOND);
            due("change(1, " + what + ", LEAST)", x.change(1, what, LEAST), BEYOND);
            due("of(1, " + what + ")", x.of(1, what), least[what]);
            due("of(0, " + what + "), another one", x.of(0, what), first[what]);
        }
    }

    private static void changeNotItself() {
        says(7, "FROM (2; -1, too; not itself)");
        SumsCopied x = told("child;child;child");
        for (int c = 0; c < 3; c++) {
            for (int v = -2; v <= 3; v++) {
                boolean can = v == -1 || v != c && v >= 0 && v <= 2;
                int was = x.of(c, 2);
                due("change(" + c + ", 2, " + v + ")", x.change(c, 2, v), can ? was : BEYOND);
                due("of(" + c + ", 2)", x.of(c, 2), can ? v : was);
            }
        }
    }

    private static void changeBeyond() {
        says(7, "of a CHILD becomes v: what it was. BEYOND.");
        SumsCopied x = told("child");
        int[][] beyond = {{-1, 0}, {1, 0}, {MOST, 0}, {LEAST, 0}, {0, -1}, {0, 6}, {0, 7}, {0, 8}, {0, MOST}, {0, LEAST}};
        for (int[] p : beyond) {
            due("change(" + p[0] + ", " + p[1] + ", 0)", x.change(p[0], p[1], 0), BEYOND);
        }
    }

    private static void answer() {
        says(8, "ANSWER of a CHILD to a SUM (-1: none). BEYOND.");
        SumsCopied x = told("child knows 128");
        due("answer(0, 7), at first", x.answer(0, 7), -1);
        x.go(1);
        due("answer(0, 7)", x.answer(0, 7), 91);
        due("answer(0, 0)", x.answer(0, 0), -1);
        int[][] beyond = {{-1, 0}, {1, 0}, {0, -1}, {0, 8}, {MOST, 0}, {LEAST, 0}, {0, MOST}, {0, LEAST}};
        for (int[] p : beyond) {
            due("answer(" + p[0] + ", " + p[1] + ")", x.answer(p[0], p[1]), BEYOND);
        }
    }

    private static void slips() {
        says(9, "What a CHILD would write for an answer a (-1 to 99) to a SUM that it copies. BEYOND.");
        SumsCopied x = told("child knows 255;sloppy knows 255");
        due("slips(0, 0, -1)", x.slips(0, 0, -1), -1);
        due("slips(0, 0, 0)", x.slips(0, 0, 0), 0);
        due("slips(0, 7, 99)", x.slips(0, 7, 99), 99);
        due("slips(1, 7, 98), even if it KNOWS that", x.slips(1, 7, 98), 89);
        int[][] beyond = {
            {-1, 0, 0}, {2, 0, 0}, {0, -1, 0}, {0, 8, 0}, {0, 0, -2}, {0, 0, 100}, {MOST, 0, 0}, {LEAST, 0, 0},
            {0, MOST, 0}, {0, LEAST, 0}, {0, 0, MOST}, {0, 0, LEAST}, {0, 8, -1},
        };
        for (int[] p : beyond) {
            due("slips(" + p[0] + ", " + p[1] + ", " + p[2] + ")", x.slips(p[0], p[1], p[2]), BEYOND);
        }
    }

    private static void alikeNow() {
        says(10, "SLIPS ALIKE of two now (by what is RIGHT now), as a set of SUMS.");
        SumsCopied x = told("child knows 255;child knows 129;child;right 0 99;right 1 99");
        due("alike(0, 1), at first", x.alike(0, 1), 0);
        x.go(1);
        // 99 to SUM 0 is 98 now; 91 to SUM 7 is 81 now.
        due("alike(0, 1)", x.alike(0, 1), 129);
        due("alike(1, 0)", x.alike(1, 0), 129);
        due("alike(0, 2), -1 is none", x.alike(0, 2), 0);
        x.right(0, 99);
        due("alike(0, 1), 99 is RIGHT now", x.alike(0, 1), 128);
        x.right(7, 91);
        due("alike(0, 1), both are RIGHT now", x.alike(0, 1), 0);
    }

    private static void alikeBeyond() {
        says(10, "BEYOND: also one and the same.");
        SumsCopied x = told("child;child");
        int[][] beyond = {{0, 0}, {1, 1}, {-1, 0}, {0, -1}, {2, 0}, {0, 2}, {2, 2}, {-1, -1}, {MOST, 0}, {0, LEAST}};
        for (int[] p : beyond) {
            due("alike(" + p[0] + ", " + p[1] + ")", x.alike(p[0], p[1]), BEYOND);
        }
    }

    // ---- days

    private static void goDays() {
        says(11, "n DAYS (1 to 60): MARKS of all together then. BEYOND.");
        SumsCopied x = told("child knows 255;child knows 1");
        int[] beyond = {0, 61, -1, MOST, LEAST};
        for (int n : beyond) {
            due("go(" + n + ")", x.go(n), BEYOND);
        }
        due("now(0)", x.now(0), 0);
        due("go(1)", x.go(1), 9);
        due("now(0)", x.now(0), 1);
        due("go(60)", x.go(60), 549);
        due("now(0)", x.now(0), 61);
        due("go(1), nobody", new SumsCopied().go(1), 0);
    }

    private static void goState() {
        says(11, "STATE: DAY would be above 99999.");
        SumsCopied x = told("child");
        goTo(x, 99940);
        due("go(60)", x.go(60), STATE);
        due("now(0)", x.now(0), 99940);
        due("go(59)", x.go(59), 0);
        due("now(0)", x.now(0), 99999);
        due("go(1)", x.go(1), STATE);
        due("go(0)", x.go(0), BEYOND);
        due("status(4)", x.status(4), 2);
    }

    private static void nowEach() {
        says(12, "What 0 DAY, 1 MARKS of all together, 2 CAUGHT of all together, 3 BISCUITS of all together");
        SumsCopied x = copiers();
        x.go(1);
        int[] want = {1, 8, 2, 203, 1, 1, 0};
        for (int what = 0; what < 7; what++) {
            due("now(" + what + ")", x.now(what), want[what]);
        }
        int[] beyond = {-1, 7, 8, MOST, LEAST};
        for (int what : beyond) {
            due("now(" + what + ")", x.now(what), BEYOND);
        }
        for (int c = 0; c < 3; c++) {
            x.change(c, 3, 9999);
            x.change(c, 4, 999);
            x.change(c, 5, 9999);
        }
        due("now(1), most", x.now(1), 29997);
        due("now(2), most", x.now(2), 29997);
        due("now(3), most", x.now(3), 2997);
    }

    private static void nowCopied() {
        says(12, "4 CHILDREN from whom another one copies, as a set");
        SumsCopied x = told("child;child;child;child;child;child;child;child");
        due("now(4), none", x.now(4), 0);
        for (int c = 0; c < 8; c++) {
            x.change(c, 2, (c + 1) % 8);
        }
        due("now(4), all", x.now(4), 255);
        for (int c = 0; c < 7; c++) {
            x.change(c, 2, 7);
        }
        x.change(7, 2, -1);
        due("now(4), the last", x.now(4), 128);
        x.change(7, 0, 5);
        due("now(4), even if it doesn't lend", x.now(4), 128);
        due("now(4), nobody there", new SumsCopied().now(4), 0);
    }

    private static void nowMost() {
        says(12, "5 CHILDREN with most MARKS, as a set");
        SumsCopied x = told("child;child;child");
        due("now(5), all have none", x.now(5), 7);
        x.change(2, 3, 1);
        due("now(5)", x.now(5), 4);
        x.change(0, 3, 1);
        due("now(5), two", x.now(5), 5);
        x.change(1, 3, 9999);
        due("now(5)", x.now(5), 2);
        due("now(5), nobody there", new SumsCopied().now(5), 0);
    }

    private static void nowUnknown() {
        says(12, "6 SUMS that nobody KNOWS, as a set. BEYOND.");
        SumsCopied x = new SumsCopied();
        due("now(6), nobody there", x.now(6), 255);
        x.child(0, 0);
        due("now(6), knows none", x.now(6), 255);
        x.child(0, 129);
        due("now(6)", x.now(6), 126);
        x.child(0, 126);
        due("now(6), all are known", x.now(6), 0);
        SumsCopied eight = told("child;child;child;child;child;child;child;child knows 128");
        due("now(6), eight are there", eight.now(6), 127);
    }

    private static void chainSteps() {
        says(13, "How many steps it is FROM one to one, till one who copies from nobody");
        SumsCopied x = told("child;child;child;child;child;child;child;child");
        for (int c = 0; c < 8; c++) {
            due("chain(" + c + "), from nobody", x.chain(c), 0);
            x.change(c, 2, c - 1);
        }
        for (int c = 0; c < 8; c++) {
            due("chain(" + c + ")", x.chain(c), c);
        }
        x.change(3, 0, 5);
        due("chain(7), whether they lend or not", x.chain(7), 7);
        int[] beyond = {-1, 8, MOST, LEAST};
        for (int c : beyond) {
            due("chain(" + c + ")", x.chain(c), BEYOND);
        }
    }

    private static void chainRound() {
        says(13, "(8 at most: who copies round)");
        SumsCopied x = told("child;child;child;child;child;child;child;child");
        x.change(0, 2, 1);
        x.change(1, 2, 0);
        x.change(2, 2, 1);
        x.change(3, 2, 2);
        for (int c = 0; c < 4; c++) {
            due("chain(" + c + "), round or into a round", x.chain(c), 8);
        }
        due("chain(4)", x.chain(4), 0);
        for (int c = 0; c < 8; c++) {
            x.change(c, 2, (c + 1) % 8);
        }
        due("chain(5), all round", x.chain(5), 8);
    }

    // ---- what will be

    private static void aheadWhat() {
        says(14, "What 1, 3, 4, 5 (as in of()) of a CHILD");
        SumsCopied x = copiers();
        int[] want = {BEYOND, 1, BEYOND, 0, 97, 1, BEYOND, BEYOND, BEYOND, BEYOND};
        for (int what = 0; what < 10; what++) {
            due("ahead(1, " + what + ", 1)", x.ahead(1, what, 1), want[what]);
        }
        int[] beyond = {-1, MOST, LEAST};
        for (int v : beyond) {
            due("ahead(1, " + v + ", 1)", x.ahead(1, v, 1), BEYOND);
            due("ahead(" + v + ", 3, 1)", x.ahead(v, 3, 1), BEYOND);
        }
        due("ahead(3, 3, 1)", x.ahead(3, 3, 1), BEYOND);
    }

    private static void aheadDays() {
        says(14, "behind n (0 to 60) DAYS. BEYOND.");
        SumsCopied x = told("child knows 3");
        due("ahead(0, 3, 0), now", x.ahead(0, 3, 0), 0);
        due("ahead(0, 3, 1)", x.ahead(0, 3, 1), 2);
        due("ahead(0, 3, 59)", x.ahead(0, 3, 59), 118);
        due("ahead(0, 3, 60)", x.ahead(0, 3, 60), 120);
        int[] beyond = {-1, 61, MOST, LEAST};
        for (int n : beyond) {
            due("ahead(0, 3, " + n + ")", x.ahead(0, 3, n), BEYOND);
        }
        due("now(0)", x.now(0), 0);
        x.change(0, 3, 9990);
        due("ahead(0, 3, 60), 9999 at most", x.ahead(0, 3, 60), 9999);
    }

    private static void writesDays() {
        says(15, "ANSWER of a CHILD to a SUM behind n (0 to 60) DAYS. BEYOND.");
        SumsCopied x = told("child knows 255;right 1 99;right 7 99");
        due("writes(0, 1, 0), now", x.writes(0, 1, 0), -1);
        due("writes(0, 1, 1)", x.writes(0, 1, 1), 99);
        due("writes(0, 7, 1)", x.writes(0, 7, 1), 99);
        due("writes(0, 7, 2)", x.writes(0, 7, 2), 5);
        due("writes(0, 1, 60)", x.writes(0, 1, 60), 99);
        // What is RIGHT of SUM 0 goes round in 20 DAYS, so on the 60th it is what it will be on the 20th.
        due("writes(0, 0, 60)", x.writes(0, 0, 60), 71);
        due("writes(0, 0, 59)", x.writes(0, 0, 59), 90);
        int[][] beyond = {
            {0, 1, -1}, {0, 1, 61}, {0, 8, 1}, {0, -1, 1}, {1, 1, 1}, {-1, 1, 1}, {MOST, 1, 1}, {0, MOST, 1}, {0, 1, MOST},
            {LEAST, 1, 1}, {0, LEAST, 1}, {0, 1, LEAST},
        };
        for (int[] p : beyond) {
            due("writes(" + p[0] + ", " + p[1] + ", " + p[2] + ")", x.writes(p[0], p[1], p[2]), BEYOND);
        }
        x.go(1);
        due("writes(0, 1, 0), now", x.writes(0, 1, 0), 99);
    }

    private static void caughtDays() {
        says(16, "Behind how many DAYS (1 to 60, the fewest) a CHILD is CAUGHT more often than now. BEYOND.");
        SumsCopied x = firstCaughtBehind67();
        x.go(7);
        due("caught(5), on the 60th", x.caught(5), 60);
        x.go(59);
        due("of(5, 5), behind 59", x.of(5, 5), 0);
        due("caught(5), on the first", x.caught(5), 1);
        x.go(1);
        due("of(5, 5), behind 60", x.of(5, 5), 1);
        SumsCopied y = copiers();
        due("caught(1), on the first", y.caught(1), 1);
        y.change(1, 5, 40);
        due("caught(1), more often than now", y.caught(1), 1);
        int[] beyond = {-1, 3, MOST, LEAST};
        for (int c : beyond) {
            due("caught(" + c + ")", y.caught(c), BEYOND);
        }
    }

    private static void caughtNone() {
        says(16, "is CAUGHT more often than now. BEYOND. NONE.");
        SumsCopied x = firstCaughtBehind67();
        x.go(6);
        due("caught(5), on the 61st", x.caught(5), NONE);
        due("caught(0), never", x.caught(0), NONE);
        SumsCopied y = copiers();
        y.change(1, 5, 9999);
        due("caught(1), can't be more", y.caught(1), NONE);
        due("caught(2), can", y.caught(2), 1);
        y.change(1, 5, 9998);
        due("caught(1), can once", y.caught(1), 1);
        due("status(3)", y.status(3), 1);
    }

    private static void whenDays() {
        says(17, "Behind how many DAYS (0 to 60, the fewest)");
        SumsCopied x = told("child knows 1;child knows 255;child");
        due("when(0, 0)", x.when(0, 0), 0);
        due("when(0, 1)", x.when(0, 1), 1);
        due("when(0, 59)", x.when(0, 59), 59);
        due("when(0, 60)", x.when(0, 60), 60);
        due("when(0, 61)", x.when(0, 61), NONE);
        due("when(1, 8)", x.when(1, 8), 1);
        due("when(1, 9)", x.when(1, 9), 2);
        due("when(1, 480)", x.when(1, 480), 60);
        due("when(1, 481)", x.when(1, 481), NONE);
        due("when(2, 0)", x.when(2, 0), 0);
        due("when(2, 1)", x.when(2, 1), NONE);
        due("status(3)", x.status(3), 3);
    }

    private static void whenMarks() {
        says(17, "MARKS of a CHILD are v (0 to 9999) or more. BEYOND. NONE.");
        SumsCopied x = told("child knows 255");
        int[] beyond = {-1, 10000, MOST, LEAST};
        for (int v : beyond) {
            due("when(0, " + v + ")", x.when(0, v), BEYOND);
        }
        int[] children = {-1, 1, MOST, LEAST};
        for (int c : children) {
            due("when(" + c + ", 0)", x.when(c, 0), BEYOND);
        }
        x.change(0, 3, 9998);
        due("when(0, 9998), has it", x.when(0, 9998), 0);
        due("when(0, 9997), has more", x.when(0, 9997), 0);
        due("when(0, 9999)", x.when(0, 9999), 1);
        x.change(0, 3, 9999);
        due("when(0, 9999), has it", x.when(0, 9999), 0);
    }

    // ---- what to do

    private static void copyFromNobodyLast() {
        says(18, "From whom a CHILD must copy (another one, or -1: nobody, which comes last)");
        SumsCopied alone = told("child");
        due("copyFrom(0, 1), alone", alone.copyFrom(0, 1), -1);
        due("copyFrom(0, 0), alone", alone.copyFrom(0, 0), -1);
        SumsCopied x = told("child;child;child");
        due("copyFrom(0, 1), all as good: not itself", x.copyFrom(0, 1), 1);
        due("copyFrom(1, 1), all as good", x.copyFrom(1, 1), 0);
        // On DAY 1 child 0 has what 1 wrote on DAY 0; who copies that from it is caught.
        SumsCopied y = told("child;child knows 255");
        y.change(0, 2, 1);
        y.go(1);
        y.change(1, 1, 1);
        due("copyFrom(1, 1), nobody is better", y.copyFrom(1, 1), -1);
        due("copyFrom(1, 0), nobody is as good", y.copyFrom(1, 0), 0);
    }

    private static void copyFromDays() {
        says(18, "so that it has most MARKS behind n (0 to 20) DAYS. BEYOND.");
        // Four each DAY from 0, or eight every second DAY, the first too, from 1.
        SumsCopied x = told("child knows 15;lazy knows 255;child biscuits 99");
        int[] n = {0, 1, 2, 18, 19, 20};
        int[] want = {0, 1, 0, 0, 1, 0};
        for (int i = 0; i < n.length; i++) {
            due("copyFrom(2, " + n[i] + ")", x.copyFrom(2, n[i]), want[i]);
        }
        int[] beyond = {-1, 21, MOST, LEAST};
        for (int v : beyond) {
            due("copyFrom(2, " + v + ")", x.copyFrom(2, v), BEYOND);
        }
        int[] children = {-1, 3, MOST, LEAST};
        for (int c : children) {
            due("copyFrom(" + c + ", 1)", x.copyFrom(c, 1), BEYOND);
        }
        due("of(2, 2), nothing changes", x.of(2, 2), -1);
    }

    private static void kindForDays() {
        says(19, "The KIND of which it must be for that. BEYOND.");
        // As a CHILD eight on each of 17 DAYS, then one; as a SELLER seven each DAY: 138 and 133, 139 and 140.
        SumsCopied x = told("child knows 255;child knows 1 from 0 biscuits 17");
        due("kindFor(1, 0), all as good", x.kindFor(1, 0), 0);
        due("kindFor(1, 1)", x.kindFor(1, 1), 0);
        due("kindFor(1, 19)", x.kindFor(1, 19), 0);
        due("kindFor(1, 20)", x.kindFor(1, 20), 6);
        int[] beyond = {-1, 21, MOST, LEAST};
        for (int n : beyond) {
            due("kindFor(1, " + n + ")", x.kindFor(1, n), BEYOND);
        }
        int[] children = {-1, 2, MOST, LEAST};
        for (int c : children) {
            due("kindFor(" + c + ", 1)", x.kindFor(c, 1), BEYOND);
        }
        due("of(1, 0), nothing changes", x.of(1, 0), 0);
    }

    private static void learnDays() {
        says(20, "The SUM that it must KNOW now (besides those that it does) for that. BEYOND.");
        SumsCopied x = slippingOnceInTwenty(ON_THE_20TH);
        due("learn(1, 0), all as good", x.learn(1, 0), 0);
        due("learn(1, 19), all as good", x.learn(1, 19), 0);
        due("learn(1, 20)", x.learn(1, 20), 6);
        int[] beyond = {-1, 21, MOST, LEAST};
        for (int n : beyond) {
            due("learn(1, " + n + ")", x.learn(1, n), BEYOND);
        }
        int[] children = {-1, 3, MOST, LEAST};
        for (int c : children) {
            due("learn(" + c + ", 1)", x.learn(c, 1), BEYOND);
        }
    }

    private static void learnBesides() {
        says(20, "(besides those that it does)");
        SumsCopied x = told("child knows 127;child knows 255;child knows 254;child");
        due("learn(0, 1), the last", x.learn(0, 1), 7);
        due("learn(1, 1), KNOWS all", x.learn(1, 1), 0);
        due("learn(2, 1), the first", x.learn(2, 1), 0);
        due("learn(3, 1), KNOWS none", x.learn(3, 1), 0);
        due("of(0, 1), nothing changes", x.of(0, 1), 127);
    }

    private static void limitForLeast() {
        says(21, "The least LIMIT with which CAUGHT of all together is as now");
        SumsCopied four = copiers();
        due("limitFor(1), four alike", four.limitFor(1), 5);
        four.limit(9);
        due("limitFor(1), whatever LIMIT is now", four.limitFor(1), 5);
        SumsCopied eight = told("child;child;child knows 255");
        eight.change(0, 2, 2);
        eight.change(1, 2, 2);
        eight.go(1);
        due("limitFor(1), eight alike", eight.limitFor(1), 9);
        due("limitFor(20), eight alike", eight.limitFor(20), 9);
        due("limitFor(20), nobody", new SumsCopied().limitFor(20), 1);
        // As now, though it was more than none.
        SumsCopied before = told("child");
        before.change(0, 5, 77);
        due("limitFor(20), CAUGHT 77 now", before.limitFor(20), 1);
    }

    private static void limitForDays() {
        says(21, "behind n (0 to 20) DAYS. BEYOND. NONE.");
        SumsCopied x = slippingOnceInTwenty(ON_THE_20TH);
        due("limitFor(0)", x.limitFor(0), 1);
        due("limitFor(19)", x.limitFor(19), 1);
        due("limitFor(20), alike on the 20th", x.limitFor(20), 2);
        int[] beyond = {-1, 21, MOST, LEAST};
        for (int n : beyond) {
            due("limitFor(" + n + ")", x.limitFor(n), BEYOND);
        }
        due("limit(1), nothing changes", x.limit(1), 1);
        due("status(3), with LIMIT 9 nobody is ever caught", x.status(3), 0);
    }

    private static void forbidFewest() {
        says(22, "The set of fewest CHILDREN");
        // Who copies from 2 is like who copies from 0 and like who copies from 1: 2 alone, or 0 and 1.
        SumsCopied x = told("child knows 255;child knows 255;child knows 255",
            "sloppy knows 160 from 0;sloppy knows 10 from 1;sloppy from 2");
        due("forbid(1), one for two", x.forbid(1), 4);
        due("forbid(0), none", x.forbid(0), 0);
        x.limit(3);
        due("forbid(1), none", x.forbid(1), 0);
        due("forbid(12), nobody there", new SumsCopied().forbid(12), 0);
    }

    private static void forbidLeast() {
        says(22, "of several the least");
        SumsCopied x = told("child knows 255;child knows 255", "sloppy from 1;sloppy from 0");
        due("forbid(1), 0 or 1", x.forbid(1), 1);
        SumsCopied y = told("child knows 255;child knows 255;child knows 255",
            "sloppy from 0;sloppy from 1;sloppy from 2");
        due("forbid(1), two of three", y.forbid(1), 3);
        SumsCopied z = told("child knows 255;sloppy from 0;sloppy from 0");
        z.child(0, 255);
        due("forbid(1), the first, not those who copy", z.forbid(1), 1);
    }

    private static void forbidNobodyCopies() {
        says(22, "if nobody copies from these from now on (FROM of who did is -1)");
        SumsCopied x = copiers();
        due("forbid(1)", x.forbid(1), 1);
        due("of(1, 2), nothing changes", x.of(1, 2), 0);
        due("of(2, 2), nothing changes", x.of(2, 2), 0);
        // 0 has what 2 wrote on the day ahead, and 1 what 3 did: whether the first one copies counts, too.
        SumsCopied z = told("child;child;child knows 255;child knows 255");
        z.change(0, 2, 2);
        z.change(1, 2, 3);
        z.go(1);
        due("forbid(1), either", z.forbid(1), 4);
        // All copy from the next one, the last from the first; each has what the next one wrote on the day ahead.
        SumsCopied y = told("limit 1", "child knows 255;child;child;child;child;child;child;child");
        for (int c = 0; c < 8; c++) {
            y.change(c, 2, (c + 1) % 8);
        }
        due("forbid(12), the first alone KNOWS", y.forbid(12), 1);
    }

    private static void forbidDays() {
        says(22, "CAUGHT of all together is as now behind n (0 to 12) DAYS; of several the least. BEYOND.");
        SumsCopied x = slippingOnceInTwenty(ON_THE_12TH);
        due("forbid(0)", x.forbid(0), 0);
        due("forbid(11)", x.forbid(11), 0);
        due("forbid(12), alike on the 12th", x.forbid(12), 1);
        int[] beyond = {-1, 13, MOST, LEAST};
        for (int n : beyond) {
            due("forbid(" + n + ")", x.forbid(n), BEYOND);
        }
        x.change(1, 5, 500);
        due("forbid(11), CAUGHT 500 now", x.forbid(11), 0);
        due("forbid(12), CAUGHT 500 now", x.forbid(12), 1);
    }

    private static void biscuitsForFewest() {
        says(23, "The fewest BISCUITS (0 to 99) of a CHILD with which it has as many MARKS");
        SumsCopied x = told("child knows 255;sloppy from 0 biscuits 999;child from 0;seller from 0");
        due("biscuitsFor(0, 20), copies from nobody", x.biscuitsFor(0, 20), 0);
        due("biscuitsFor(1, 1), sloppy", x.biscuitsFor(1, 1), 2);
        due("biscuitsFor(2, 1), child", x.biscuitsFor(2, 1), 1);
        due("biscuitsFor(3, 1), seller", x.biscuitsFor(3, 1), 0);
        due("of(1, 4), nothing changes", x.of(1, 4), 999);
        // A SELLER who lends what it had from the day ahead is caught; with 19 it lends once, then no more.
        SumsCopied y = told("seller knows 1;child knows 255;child from 0");
        y.change(0, 2, 1);
        due("biscuitsFor(0, 2), too many to lend", y.biscuitsFor(0, 2), 19);
        due("biscuitsFor(0, 1)", y.biscuitsFor(0, 1), 0);
    }

    private static void biscuitsForDays() {
        says(23, "behind n (0 to 20) DAYS as with 99. BEYOND.");
        SumsCopied x = told("child knows 255;sloppy from 0;child from 0");
        x.change(1, 2, -1);
        due("biscuitsFor(2, 0)", x.biscuitsFor(2, 0), 0);
        due("biscuitsFor(2, 19)", x.biscuitsFor(2, 19), 19);
        due("biscuitsFor(2, 20)", x.biscuitsFor(2, 20), 20);
        x.change(1, 2, 0);
        x.change(2, 2, -1);
        due("biscuitsFor(1, 20), two each DAY", x.biscuitsFor(1, 20), 40);
        int[] beyond = {-1, 21, MOST, LEAST};
        for (int n : beyond) {
            due("biscuitsFor(2, " + n + ")", x.biscuitsFor(2, n), BEYOND);
        }
        int[] children = {-1, 3, MOST, LEAST};
        for (int c : children) {
            due("biscuitsFor(" + c + ", 1)", x.biscuitsFor(c, 1), BEYOND);
        }
    }

    // ---- from whom it was

    private static void sourcesAny() {
        says(24, "its ANSWERS to SUMS 0, 1, .. are as a sheet tells (-2: any;");
        SumsCopied x = told("child knows 255;child knows 15;honest knows 255;child");
        int[][] asked = {{}, {-2}, {14}, {-1}, {-2, -2, -2, -2, 58}, {14, -2, -2, -2, -1}, {15}, {-3}, {100}, {-2, 25, 14}};
        int[] want = {7, 7, 3, 4, 1, 2, 0, 0, 0, 0};
        int[] bits = {8, 16, 32};
        for (int i = 0; i < asked.length; i++) {
            fill(x, 0, bits[i % 3], asked[i]);
            due("sources(0, 3), asked " + java.util.Arrays.toString(asked[i]), x.sources(0, 3), want[i]);
        }
        fill(x, 0, 8);
        due("sources(0, 0), not itself", x.sources(0, 0), 14);
        due("of(3, 2), nothing changes", x.of(3, 2), -1);
        SumsCopied alone = told("child");
        fill(alone, 0, 8);
        due("sources(0, 0), alone", alone.sources(0, 0), 0);
        // A greater one's ANSWERS of the day ahead, and what is SLIPPED of a lesser one's.
        SumsCopied y = told("child knows 255;sloppy;child knows 255");
        y.go(1);
        fill(y, 3, 8, -2, 52);
        due("sources(3, 1), 25 on the day ahead", y.sources(3, 1), 4);
        fill(y, 3, 8, -2, 77);
        due("sources(3, 1), 77 now", y.sources(3, 1), 1);
    }

    private static void sourcesFirstEight() {
        says(24, "beyond the first eight nothing is asked)");
        SumsCopied x = told("child knows 255;child");
        fill(x, 0, 8, 14, 25, 36, 47, 58, 69, 80, 91);
        due("sources(0, 1), eight", x.sources(0, 1), 1);
        fill(x, 0, 8, 14, 25, 36, 47, 58, 69, 80, 91, 7, 7, 7);
        due("sources(0, 1), eleven", x.sources(0, 1), 1);
        fill(x, 0, 8, 14, 25, 36, 47, 58, 69, 80, 90);
        due("sources(0, 1), the eighth is asked", x.sources(0, 1), 0);
        x.sheet(0, 16, 40);
        due("sources(0, 1), forty, all 0", x.sources(0, 1), 0);
        for (int i = 0; i < 40; i++) {
            x.write(0, i, i < 8 ? -2 : 7);
        }
        due("sources(0, 1), forty, eight of them any", x.sources(0, 1), 1);
        due("fits(0, 1)", x.fits(0, 1), 256);
        due("knew(0, 1)", x.knew(0, 1), 0);
        due("kinds(0, 1)", x.kinds(0, 1), 127);
    }

    private static void sourcesFindings() {
        says(24, "BEYOND: no such sheet. MISSING. BEYOND: no such CHILD.");
        SumsCopied x = told("child;child");
        x.sheet(3, 8, 1);
        int[] sheets = {-1, 4, MOST, LEAST};
        for (int s : sheets) {
            due("sources(" + s + ", 0)", x.sources(s, 0), BEYOND);
        }
        due("sources(2, 0)", x.sources(2, 0), MISSING);
        due("sources(2, 2)", x.sources(2, 2), MISSING);
        int[] children = {-1, 2, MOST, LEAST};
        for (int c : children) {
            due("sources(3, " + c + ")", x.sources(3, c), BEYOND);
        }
    }

    private static void fitsSets() {
        says(25, "How many sets (0 to 255) it could KNOW for that, FROM as it is.");
        SumsCopied x = told("child knows 255;child knows 7");
        int[][] asked = {
            {}, {-2}, {14}, {-1}, {15}, {-1, -1, -1, -1, -1, -1, -1, -1}, {14, 25, 36, 47, 58, 69, 80, 91}, {14, -1, -2, 47},
        };
        int[] alone = {256, 256, 128, 128, 0, 1, 1, 32};
        int[] copying = {256, 256, 256, 0, 0, 0, 256, 0};
        for (int i = 0; i < asked.length; i++) {
            fill(x, 1, 8, asked[i]);
            String what = "fits(1, 1), asked " + java.util.Arrays.toString(asked[i]);
            x.change(1, 2, -1);
            due(what + ", from nobody", x.fits(1, 1), alone[i]);
            x.change(1, 2, 0);
            due(what + ", from 0", x.fits(1, 1), copying[i]);
        }
        x.change(1, 0, 2);
        fill(x, 1, 8, -2, 52, -2, 47);
        due("fits(1, 1), one slipped, one known", x.fits(1, 1), 64);
        x.change(1, 4, 1);
        due("fits(1, 1), can't pay", x.fits(1, 1), 0);
        due("of(1, 1), nothing changes", x.of(1, 1), 7);
        // 254 and 255 in eight bits are -2 and -1.
        fill(x, 1, 8, 254, 255);
        due("fits(1, 1), any and none", x.fits(1, 1), 128);
    }

    private static void fitsFindings() {
        says(25, "FROM as it is. BEYOND: no such sheet. MISSING. BEYOND: no such CHILD.");
        SumsCopied x = told("child;child");
        x.sheet(3, 8, 1);
        int[] sheets = {-1, 4, MOST, LEAST};
        for (int s : sheets) {
            due("fits(" + s + ", 0)", x.fits(s, 0), BEYOND);
        }
        due("fits(2, 0)", x.fits(2, 0), MISSING);
        due("fits(2, 2)", x.fits(2, 2), MISSING);
        int[] children = {-1, 2, MOST, LEAST};
        for (int c : children) {
            due("fits(3, " + c + ")", x.fits(3, c), BEYOND);
        }
    }

    private static void knewLeast() {
        says(26, "The least of them.");
        SumsCopied x = told("child knows 255;child knows 7");
        int[][] asked = {
            {}, {-2}, {14}, {-1}, {-1, -1, -1, -1, -1, -1, -1, -1}, {14, 25, 36, 47, 58, 69, 80, 91},
            {-2, -2, -2, -2, -2, -2, -2, 91},
        };
        int[] want = {0, 0, 1, 0, 0, 255, 128};
        for (int i = 0; i < asked.length; i++) {
            fill(x, 0, 16, asked[i]);
            due("knew(0, 1), asked " + java.util.Arrays.toString(asked[i]), x.knew(0, 1), want[i]);
        }
        x.change(1, 2, 0);
        due("knew(0, 1), copied as well as known", x.knew(0, 1), 0);
        due("of(1, 1), nothing changes", x.of(1, 1), 7);
    }

    private static void knewNone() {
        says(26, "BEYOND, MISSING, BEYOND likewise. NONE.");
        SumsCopied x = told("child;child");
        fill(x, 3, 8, 15);
        int[] sheets = {-1, 4, MOST, LEAST};
        for (int s : sheets) {
            due("knew(" + s + ", 0)", x.knew(s, 0), BEYOND);
        }
        due("knew(2, 0)", x.knew(2, 0), MISSING);
        due("knew(2, 2)", x.knew(2, 2), MISSING);
        int[] children = {-1, 2, MOST, LEAST};
        for (int c : children) {
            due("knew(3, " + c + ")", x.knew(3, c), BEYOND);
        }
        due("status(3)", x.status(3), 0);
        due("knew(3, 0)", x.knew(3, 0), NONE);
        fill(x, 3, 8, -2, -2, -2, -2, -2, -2, -2, -3);
        due("knew(3, 0), the eighth", x.knew(3, 0), NONE);
        due("status(3)", x.status(3), 2);
    }

    private static void kindsEach() {
        says(27, "KINDS that it could be of, as a set, likewise.");
        SumsCopied x = told("child knows 255;seven from 0");
        int[][] asked = {{}, {14}, {-1}, {-2, 25}, {-2, 52}, {-2, -2, -2, 74}, {-2, -2, -2, 14}, {99}};
        int[] want = {127, 1 + 4 + 8 + 16, 2 + 32 + 64, 1 + 2 + 64, 4 + 8 + 16, 4, 8 + 16, 0};
        for (int i = 0; i < asked.length; i++) {
            fill(x, 0, 32, asked[i]);
            due("kinds(0, 1), asked " + java.util.Arrays.toString(asked[i]), x.kinds(0, 1), want[i]);
        }
        x.change(1, 4, 1);
        fill(x, 0, 32, -2, -1);
        due("kinds(0, 1), one biscuit: who can't pay, and HONEST", x.kinds(0, 1), 4 + 8 + 16 + 32);
        x.change(1, 4, 0);
        due("kinds(0, 1), no biscuit: all but SELLER", x.kinds(0, 1), 63);
        x.change(1, 4, 9);
        x.go(1);
        fill(x, 0, 32, -2, -1);
        due("kinds(0, 1), DAY odd: LAZY, HONEST", x.kinds(0, 1), 16 + 32);
        due("of(1, 0), nothing changes", x.of(1, 0), 3);
    }

    private static void kindsFindings() {
        says(27, "as a set, likewise. BEYOND: no such sheet. MISSING. BEYOND: no such CHILD.");
        SumsCopied x = told("child;child");
        x.sheet(3, 8, 1);
        int[] sheets = {-1, 4, MOST, LEAST};
        for (int s : sheets) {
            due("kinds(" + s + ", 0)", x.kinds(s, 0), BEYOND);
        }
        due("kinds(2, 0)", x.kinds(2, 0), MISSING);
        due("kinds(2, 2)", x.kinds(2, 2), MISSING);
        int[] children = {-1, 2, MOST, LEAST};
        for (int c : children) {
            due("kinds(3, " + c + ")", x.kinds(3, c), BEYOND);
        }
    }

    // ---- seats

    private static void seatsTimes() {
        says(28, "n times (1 to 20) two draws");
        SumsCopied x = told("child knows 255");
        int[] beyond = {0, 21, -1, MOST, LEAST};
        for (int n : beyond) {
            due("seats(" + n + ")", x.seats(n), BEYOND);
        }
        due("count(6), no draws", x.count(6), 1);
        due("now(0)", x.now(0), 0);
        due("seats(1)", x.seats(1), 8);
        due("count(6), two draws", x.count(6), -1770082073);
        due("seats(1)", x.seats(1), 16);
        due("count(6), two draws more", x.count(6), -999580867);
        due("seats(20)", x.seats(20), 176);
        due("now(0)", x.now(0), 22);
        SumsCopied y = told("child knows 255");
        due("seats(2) at once", y.seats(2), 16);
        due("count(6), four draws", y.count(6), -999580867);
        due("now(0)", y.now(0), 2);
    }

    private static void seatsSuchAndUnlike() {
        says(28, "if there are such and these are unlike");
        // Draws' rests: from 1: 6 and 0; from 4: 1 and 0; from 101: 1 and 1; from 56: 0 and 5.
        int[] seeds = {1, 4, 101, 56};
        int[] children = {6, 2, 8, 5};
        for (int i = 0; i < 4; i++) {
            SumsCopied x = new SumsCopied();
            for (int c = 0; c < children[i]; c++) {
                x.child(0, 0);
            }
            x.seed(seeds[i]);
            x.seats(1);
            due("now(4), from " + seeds[i], x.now(4), i == 1 ? 1 : 0);
            due("of(1, 2), from " + seeds[i], x.of(1, 2), i == 1 ? 0 : -1);
            due("now(0), a DAY all the same", x.now(0), 1);
        }
        // One more child, and there are such.
        SumsCopied seven = told("child;child;child;child;child;child;child");
        seven.seats(1);
        due("of(6, 2)", seven.of(6, 2), 0);
        SumsCopied six = told("child;child;child;child;child;child");
        six.seed(56);
        six.seats(1);
        due("of(0, 2)", six.of(0, 2), 5);
        due("seats(20), nobody", new SumsCopied().seats(20), 0);
    }

    private static void seatsState() {
        says(28, "MARKS of all together then. BEYOND. STATE: DAY would be above 99999.");
        SumsCopied x = told("child");
        goTo(x, 99980);
        due("seats(20)", x.seats(20), STATE);
        due("count(6), no draws", x.count(6), 1);
        due("seats(19)", x.seats(19), 0);
        due("now(0)", x.now(0), 99999);
        due("seats(1)", x.seats(1), STATE);
        due("seats(21)", x.seats(21), BEYOND);
        due("status(4)", x.status(4), 2);
    }

    private static void oddsDraws() {
        says(29, "The odds that n (0 to 20) first draws' rests by 8 are all SUMS that a CHILD KNOWS");
        SumsCopied x = told("child;child knows 255;child knows 127;child knows 128");
        long eightTo20 = 1152921504606846976L;
        long[][] want = {
            {0, 0, 1, 1}, {0, 1, 0, 1}, {0, 20, 0, 1}, {1, 0, 1, 1}, {1, 20, 1, 1}, {2, 0, 1, 1}, {2, 1, 7, 8},
            {2, 19, 11398895185373143L, eightTo20 / 8}, {2, 20, 79792266297612001L, eightTo20}, {3, 20, 1, eightTo20},
        };
        for (long[] w : want) {
            int c = (int) w[0];
            int n = (int) w[1];
            due("odds(" + c + ", " + n + ", 0)", x.odds(c, n, 0), w[2]);
            due("odds(" + c + ", " + n + ", 1)", x.odds(c, n, 1), w[3]);
        }
        int[][] beyond = {
            {-1, 0, 0}, {4, 0, 0}, {0, -1, 0}, {0, 21, 0}, {0, 0, -1}, {0, 0, 2}, {MOST, 0, 0}, {LEAST, 0, 0}, {0, MOST, 0},
            {0, LEAST, 0}, {0, 0, MOST}, {0, 0, LEAST},
        };
        for (int[] p : beyond) {
            due("odds(" + p[0] + ", " + p[1] + ", " + p[2] + ")", x.odds(p[0], p[1], p[2]), BEYOND);
        }
    }

    private static void oddsLowestTerms() {
        says(29, "a fraction in lowest terms: above (what 0), below the line (1)");
        int[] knows = {0, 1, 3, 7, 15, 31, 63, 127, 255};
        int[] above = {0, 1, 1, 27, 1, 125, 27, 343, 1};
        int[] below = {1, 512, 64, 512, 8, 512, 64, 512, 1};
        SumsCopied x = told("child");
        for (int i = 0; i < 9; i++) {
            x.change(0, 1, knows[i]);
            due("odds(0, 3, 0), KNOWS " + i, x.odds(0, 3, 0), above[i]);
            due("odds(0, 3, 1), KNOWS " + i, x.odds(0, 3, 1), below[i]);
        }
    }

    private static void seedAny() {
        says(30, "z becomes v: what it was.");
        SumsCopied x = new SumsCopied();
        int[] seeds = {0, -1, MOST, LEAST, BEYOND, SIZE, 1};
        int was = 1;
        for (int v : seeds) {
            due("seed(" + v + ")", x.seed(v), was);
            due("count(6)", x.count(6), v);
            was = v;
        }
        due("status(-1), z is no finding", x.status(-1), 0);
    }

    // ---- texts

    private static void feedOrder() {
        says(31, "THE TAPE gets the n lowest bytes of a number behind it, the highest of these first (n 1 to 4): how many"
            + " it has.");
        SumsCopied x = new SumsCopied();
        // "limit 7;limit 8", by 4, 3, 2, 1 and so on.
        due("feed(limi, 4)", x.feed(0x6C696D69, 4), 4);
        due("feed(.t 7, 3)", x.feed(0xFF742037, 3), 7);
        due("feed(..;l, 2)", x.feed(0x80003B6C, 2), 9);
        due("feed(...i, 1)", x.feed(0x12345669, 1), 10);
        due("feed(mit , 4)", x.feed(0x6D697420, 4), 14);
        due("feed(...8, 1)", x.feed(0x38, 1), 15);
        due("text()", x.text(), 2);
        due("limit(1)", x.limit(1), 8);
        // Bytes above 127 stay what they are: no TOKEN.
        x.feed(-1, 4);
        due("count(5)", x.count(5), 4);
        due("text()", x.text(), -1);
        due("feed(LEAST, 4)", x.feed(LEAST, 4), 4);
        due("text()", x.text(), -1);
    }

    private static void feedBeyond() {
        says(31, "BEYOND: n.");
        SumsCopied x = new SumsCopied();
        int[] beyond = {0, 5, -1, MOST, LEAST};
        for (int n : beyond) {
            due("feed(1, " + n + ")", x.feed(1, n), BEYOND);
        }
        due("count(5)", x.count(5), 0);
        for (int n = 1; n <= 4; n++) {
            due("feed(1, " + n + ")", x.feed(1, n), n * (n + 1) / 2);
        }
    }

    private static void feedFull() {
        says(31, "BEYOND: n. FULL.");
        for (int n = 1; n <= 4; n++) {
            SumsCopied x = new SumsCopied();
            for (int i = 1; i <= 120 / n; i++) {
                due("feed(0, " + n + ")", x.feed(0, n), i * n);
            }
            due("feed(0, " + n + "), full", x.feed(0, n), FULL);
            due("feed(0, 1), full", x.feed(0, 1), FULL);
            due("feed(0, 5), full", x.feed(0, 5), BEYOND);
            due("count(5)", x.count(5), 120);
        }
        for (int n = 2; n <= 4; n++) {
            SumsCopied x = new SumsCopied();
            for (int i = 1; i <= 121 - n; i++) {
                x.feed(0, 1);
            }
            due("feed(0, " + n + "), one too many", x.feed(0, n), FULL);
            due("count(5), not a part of it", x.count(5), 121 - n);
            due("feed(0, " + (n - 1) + "), just so", x.feed(0, n - 1), 120);
        }
    }

    private static void wipe() {
        says(32, "THE TAPE is empty: how many it had.");
        SumsCopied x = new SumsCopied();
        due("wipe(), empty", x.wipe(), 0);
        feedAll(x, "limit 9");
        due("wipe()", x.wipe(), 7);
        due("wipe()", x.wipe(), 0);
        due("text(), nothing is left", x.text(), -1);
        for (int i = 0; i < 30; i++) {
            x.feed(0, 4);
        }
        due("wipe(), full", x.wipe(), 120);
        due("feed(0, 4), room again", x.feed(0, 4), 4);
    }

    private static void textCounts() {
        says(33, "THE TAPE is a TEXT, and empty then; all that it tells is so, item by item: how many ITEMS.");
        SumsCopied x = new SumsCopied();
        due("text()", read(x, "sly"), 1);
        due("count(5), empty then", x.count(5), 0);
        due("text()", read(x, "right 0 1;right 0 2;sly from 0;limit 9;seller knows 3 from 1 biscuits 999"), 5);
        due("isRight(0), item by item", x.isRight(0), 2);
        due("of(2, 2), who came by an item", x.of(2, 2), 1);
        due("of(2, 4)", x.of(2, 4), 999);
        due("count(1)", x.count(1), 3);
        due("limit(2)", x.limit(2), 9);
        due("status(-1)", x.status(-1), 0);
        SumsCopied y = new SumsCopied();
        due("text(), eight", read(y, "child;sly;sloppy;seven;lazy;honest;seller;child"), 8);
        int[] kinds = {0, 1, 2, 3, 4, 5, 6, 0};
        int[] first = {0, -1, 0, 5, 0};
        for (int c = 0; c < 8; c++) {
            due("of(" + c + ", 0)", y.of(c, 0), kinds[c]);
            for (int what = 1; what < 6; what++) {
                due("of(" + c + ", " + what + "), as at first", y.of(c, what), first[what - 1]);
            }
        }
    }

    private static void textFault() {
        says(33, "With a FAULT: -1 less the FAULT (nothing changes but that THE TAPE is empty; no finding).");
        SumsCopied x = told("child;child");
        due("text(), in the fifth item", read(x, "right 0 1;limit 9;sly;sly from 0;sly from 4"), -1 - 42);
        due("count(5), empty", x.count(5), 0);
        due("isRight(0)", x.isRight(0), 14);
        due("limit(2)", x.limit(2), 2);
        due("count(1)", x.count(1), 2);
        due("text(), nothing at all", x.text(), -1);
        due("text(), at the very end", read(x, "limit 9" + " ".repeat(112) + "9"), -1 - 119);
        due("text(), ends too early", read(x, "limit" + " ".repeat(115)), -121);
        due("status(-1), no finding", x.status(-1), 0);
        due("text(), as after none", read(x, "sly from 1"), 1);
    }

    // ---- spots, sheets

    private static void holdNothing() {
        says(34, "A SPOT holds a CHILD, or nothing (-1): 1.");
        SumsCopied x = told("child;child");
        due("hold(0, -1), held nothing", x.hold(0, -1), 1);
        due("count(7)", x.count(7), 0);
        due("hold(0, 1)", x.hold(0, 1), 1);
        due("hold(9, 1), the same one twice", x.hold(9, 1), 1);
        due("count(7)", x.count(7), 2);
        due("hold(0, 0), another one", x.hold(0, 0), 1);
        due("as(0, 0)", x.as(0, 0), 0);
        due("count(7)", x.count(7), 2);
        due("hold(0, -1)", x.hold(0, -1), 1);
        due("as(0, 0)", x.as(0, 0), MISSING);
        due("count(7)", x.count(7), 1);
    }

    private static void holdBeyond() {
        says(34, "or nothing (-1): 1. BEYOND.");
        SumsCopied x = told("child;child");
        int[][] beyond = {
            {-1, 0}, {10, 0}, {0, 2}, {0, -2}, {-1, -1}, {10, -1}, {MOST, 0}, {LEAST, 0}, {0, MOST}, {0, LEAST}, {0, 8},
        };
        for (int[] p : beyond) {
            due("hold(" + p[0] + ", " + p[1] + ")", x.hold(p[0], p[1]), BEYOND);
        }
        due("count(7)", x.count(7), 0);
        due("hold(0, 0), nobody there", new SumsCopied().hold(0, 0), BEYOND);
        due("hold(0, -1), nobody there", new SumsCopied().hold(0, -1), 1);
    }

    private static void asKind() {
        says(35, "KIND: it isn't of that kind, nor of one under it.");
        SumsCopied x = told("child;lazy;seller");
        x.hold(0, 0);
        x.hold(1, 1);
        x.hold(2, 2);
        int[][] want = {
            {0, KIND, KIND, KIND, KIND, KIND, KIND}, {1, KIND, 1, 1, 1, KIND, KIND}, {2, 2, KIND, KIND, KIND, KIND, 2},
        };
        for (int spot = 0; spot < 3; spot++) {
            for (int kind = 0; kind < 7; kind++) {
                due("as(" + spot + ", " + kind + ")", x.as(spot, kind), want[spot][kind]);
            }
        }
        x.change(1, 0, 2);
        due("as(1, 4), another KIND now", x.as(1, 4), KIND);
        due("as(1, 2)", x.as(1, 2), 1);
    }

    private static void asMissing() {
        says(35, "What a SPOT holds as one of a kind (0 to 6): the number of the CHILD. BEYOND. MISSING: it holds nothing.");
        SumsCopied x = told("child");
        x.hold(9, 0);
        int[][] beyond = {
            {-1, 0}, {10, 0}, {9, -1}, {9, 7}, {0, -1}, {0, 7}, {MOST, 0}, {LEAST, 0}, {9, MOST}, {9, LEAST},
        };
        for (int[] p : beyond) {
            due("as(" + p[0] + ", " + p[1] + ")", x.as(p[0], p[1]), BEYOND);
        }
        for (int spot = 0; spot < 9; spot++) {
            due("as(" + spot + ", 6)", x.as(spot, 6), MISSING);
        }
        due("as(9, 0)", x.as(9, 0), 0);
    }

    private static void sheetZeros() {
        says(36, "A sheet has n numbers, all 0, of 8, 16 or 32 bits");
        int[] bits = {8, 16, 32};
        for (int b : bits) {
            SumsCopied x = told("child;child;child;child;child;child;child;child");
            due("sheet(1, " + b + ", 40)", x.sheet(1, b, 40), 40);
            due("judge(1), all 0, a ninth CHILD isn't there", x.judge(1), 9);
            x.write(1, 7, 1);
            due("judge(1)", x.judge(1), 8);
            due("sheet(1, " + b + ", 8)", x.sheet(1, b, 8), 8);
            due("judge(1), all 0 anew", x.judge(1), 0);
            due("sheet(1, " + b + ", 0)", x.sheet(1, b, 0), 0);
            due("judge(1), no numbers, not MISSING", x.judge(1), 0);
            due("sheet(1, " + b + ", 1)", x.sheet(1, b, 1), 1);
        }
    }

    private static void sheetMissing() {
        says(36, "bits 0: it is MISSING: n (0 if it is MISSING).");
        SumsCopied x = new SumsCopied();
        due("sheet(0, 0, 0), was MISSING", x.sheet(0, 0, 0), 0);
        due("load(0)", x.load(0), MISSING);
        x.sheet(0, 8, 7);
        due("load(0)", x.load(0), 7);
        due("sheet(0, 0, 7)", x.sheet(0, 0, 7), 0);
        due("load(0)", x.load(0), MISSING);
        x.sheet(0, 8, 7);
        due("sheet(0, 0, 40)", x.sheet(0, 0, 40), 0);
        due("load(0)", x.load(0), MISSING);
    }

    private static void sheetBeyond() {
        says(36, "BEYOND: no such sheet, other bits.");
        SumsCopied x = new SumsCopied();
        int[][] beyond = {
            {-1, 8, 1}, {4, 8, 1}, {MOST, 8, 1}, {LEAST, 8, 1}, {0, 1, 1}, {0, 7, 1}, {0, 9, 1}, {0, 24, 1}, {0, 64, 1},
            {0, -8, 1}, {0, MOST, 1}, {0, LEAST, 1}, {4, 8, -1}, {0, 7, -1}, {4, 0, 0},
        };
        for (int[] p : beyond) {
            due("sheet(" + p[0] + ", " + p[1] + ", " + p[2] + ")", x.sheet(p[0], p[1], p[2]), BEYOND);
        }
        due("load(0)", x.load(0), MISSING);
    }

    private static void sheetSize() {
        says(36, "SIZE: n is below 0 (also with bits 0). BEYOND: n is above 40.");
        SumsCopied x = new SumsCopied();
        x.sheet(0, 8, 3);
        int[] bits = {0, 8, 16, 32};
        for (int b : bits) {
            due("sheet(0, " + b + ", -1)", x.sheet(0, b, -1), SIZE);
            due("sheet(0, " + b + ", LEAST)", x.sheet(0, b, LEAST), SIZE);
            due("sheet(0, " + b + ", 41)", x.sheet(0, b, 41), BEYOND);
            due("sheet(0, " + b + ", MOST)", x.sheet(0, b, MOST), BEYOND);
        }
        due("load(0), as it was", x.load(0), 3);
        due("status(6)", x.status(6), 8);
        due("status(0)", x.status(0), 8);
    }

    private static void writeLowestBits() {
        says(37, "Number i of a sheet becomes v (its lowest bits): 1.");
        SumsCopied x = told("child");
        int[] bits = {8, 8, 8, 8, 8, 16, 16, 16, 16, 16, 32, 32};
        int[] v = {127, 256, 383, -129, 65536 + 99, 9999, 65536, 65536 + 9999, -65537 + 1, -55537, 9999, 0};
        int[] marks = {127, 0, 127, 127, 99, 9999, 0, 9999, 0, 9999, 9999, 0};
        for (int i = 0; i < bits.length; i++) {
            x.sheet(2, bits[i], 1);
            x.change(0, 3, marks[i]);
            due("write(2, 0, " + v[i] + ")", x.write(2, 0, v[i]), 1);
            due("judge(2), " + v[i] + " in " + bits[i], x.judge(2), 0);
        }
        // What has the highest of its bits is below 0: 128 and 200 in eight bits aren't these.
        int[] below = {128, 200, 255};
        for (int m : below) {
            x.sheet(2, 8, 1);
            x.change(0, 3, m);
            x.write(2, 0, m);
            due("judge(2), " + m + " in 8", x.judge(2), 1);
            x.sheet(2, 16, 1);
            x.write(2, 0, m);
            due("judge(2), " + m + " in 16", x.judge(2), 0);
        }
        x.sheet(2, 32, 1);
        x.change(0, 3, 0);
        int[] notZero = {65536, LEAST, 256, -1};
        for (int n : notZero) {
            x.write(2, 0, n);
            due("judge(2), " + n + " in 32", x.judge(2), 1);
        }
        // -1 and -2 in each: none, and any.
        for (int b = 8; b <= 32; b *= 2) {
            fill(x, 2, b, -1, -2);
            due("fits(2, 0), " + b, x.fits(2, 0), 128);
        }
    }

    private static void writeBeyond() {
        says(37, "BEYOND: no such sheet. MISSING. BEYOND: no such number.");
        SumsCopied x = new SumsCopied();
        x.sheet(0, 8, 40);
        x.sheet(1, 8, 0);
        x.sheet(3, 8, 1);
        due("write(0, 0, 1)", x.write(0, 0, 1), 1);
        due("write(0, 39, 1)", x.write(0, 39, 1), 1);
        due("write(3, 0, 1)", x.write(3, 0, 1), 1);
        int[][] beyond = {
            {-1, 0}, {4, 0}, {MOST, 0}, {LEAST, 0}, {0, -1}, {0, 40}, {0, MOST}, {0, LEAST}, {1, 0}, {1, -1}, {3, 1},
        };
        for (int[] p : beyond) {
            due("write(" + p[0] + ", " + p[1] + ", 1)", x.write(p[0], p[1], 1), BEYOND);
        }
        due("write(2, 0, 1)", x.write(2, 0, 1), MISSING);
        due("write(2, -1, 1)", x.write(2, -1, 1), MISSING);
    }

    private static void copyAsTheyWere() {
        says(38, "n numbers of a sheet from one on come to another one from one on (as they all were): n.");
        int[][] calls = {{0, 1, 5}, {1, 0, 5}, {0, 0, 6}, {0, 3, 3}, {3, 0, 3}, {2, 4, 2}, {5, 0, 1}, {0, 6, 0}, {6, 0, 0}};
        int[][] want = {
            {1, 1, 2, 3, 4, 5}, {2, 3, 4, 5, 6, 6}, {1, 2, 3, 4, 5, 6}, {1, 2, 3, 1, 2, 3}, {4, 5, 6, 4, 5, 6},
            {1, 2, 3, 4, 3, 4}, {6, 2, 3, 4, 5, 6}, {1, 2, 3, 4, 5, 6}, {1, 2, 3, 4, 5, 6},
        };
        for (int i = 0; i < calls.length; i++) {
            SumsCopied x = new SumsCopied();
            fill(x, 0, 8, 1, 2, 3, 4, 5, 6);
            int[] p = calls[i];
            String call = "copy(0, " + p[0] + ", 0, " + p[1] + ", " + p[2] + ")";
            due(call, x.copy(0, p[0], 0, p[1], p[2]), p[2]);
            x.load(0);
            for (int s = 0; s < 6; s++) {
                due("isRight(" + s + ") after " + call, x.isRight(s), want[i][s]);
            }
        }
        SumsCopied y = new SumsCopied();
        fill(y, 0, 32, 1, 2, 3, 4, 5, 6);
        fill(y, 1, 32, 7, 8, 9);
        due("copy(0, 4, 1, 1, 2)", y.copy(0, 4, 1, 1, 2), 2);
        y.load(1);
        int[] then = {7, 5, 6, 47};
        for (int s = 0; s < 4; s++) {
            due("isRight(" + s + ")", y.isRight(s), then[s]);
        }
    }

    private static void copyFindings() {
        says(38, "BEYOND: no such sheet (either). MISSING: one is. KIND: they are not of as many bits.");
        SumsCopied x = new SumsCopied();
        x.sheet(0, 8, 3);
        x.sheet(1, 16, 3);
        x.sheet(2, 32, 3);
        int[] sheets = {-1, 4, MOST, LEAST};
        for (int s : sheets) {
            due("copy(" + s + ", 0, 0, 0, 1)", x.copy(s, 0, 0, 0, 1), BEYOND);
            due("copy(0, 0, " + s + ", 0, 1)", x.copy(0, 0, s, 0, 1), BEYOND);
            due("copy(3, 0, " + s + ", 0, 1)", x.copy(3, 0, s, 0, 1), BEYOND);
        }
        due("copy(3, 0, 0, 0, 1)", x.copy(3, 0, 0, 0, 1), MISSING);
        due("copy(0, 0, 3, 0, 1)", x.copy(0, 0, 3, 0, 1), MISSING);
        due("copy(3, 0, 3, 0, 0)", x.copy(3, 0, 3, 0, 0), MISSING);
        due("copy(3, -1, 0, -1, -1)", x.copy(3, -1, 0, -1, -1), MISSING);
        for (int s = 0; s < 3; s++) {
            for (int t = 0; t < 3; t++) {
                due("copy(" + s + ", 0, " + t + ", 0, 3)", x.copy(s, 0, t, 0, 3), s == t ? 3 : KIND);
                due("copy(" + s + ", 0, " + t + ", 0, 0)", x.copy(s, 0, t, 0, 0), s == t ? 0 : KIND);
                due("copy(" + s + ", 0, " + t + ", 0, 4)", x.copy(s, 0, t, 0, 4), s == t ? BEYOND : KIND);
            }
        }
    }

    private static void copyBeyond() {
        says(38, "BEYOND: one has not so many, or from, to or n is below 0.");
        SumsCopied x = new SumsCopied();
        fill(x, 0, 8, 1, 2, 3, 4, 5);
        fill(x, 1, 8, 7, 8, 9);
        int[][] beyond = {
            {0, 0, 4}, {3, 0, 3}, {0, 1, 3}, {5, 0, 1}, {0, 3, 1}, {6, 0, 0}, {0, 4, 0}, {-1, 0, 1}, {0, -1, 1}, {0, 0, -1},
            {-1, 0, 0}, {0, -1, 0}, {MOST, 0, 1}, {0, MOST, 1}, {0, 0, MOST}, {MOST, 0, MOST}, {0, MOST, MOST}, {1, 1, MOST},
            {LEAST, 0, 1}, {0, LEAST, 1}, {0, 0, LEAST}, {LEAST, LEAST, LEAST}, {MOST, MOST, MOST}, {MOST, MOST, LEAST},
            {LEAST, LEAST, MOST}, {-1, -1, 1}, {MOST, 0, 0}, {0, MOST, 0},
        };
        for (int[] p : beyond) {
            due("copy(0, " + p[0] + ", 1, " + p[1] + ", " + p[2] + ")", x.copy(0, p[0], 1, p[1], p[2]), BEYOND);
        }
        due("copy(0, 5, 1, 3, 0), just so", x.copy(0, 5, 1, 3, 0), 0);
        due("load(1), as it was", x.load(1), 3);
        due("isRight(0)", x.isRight(0), 7);
        due("copy(0, 2, 1, 0, 3), just so", x.copy(0, 2, 1, 0, 3), 3);
    }

    private static void loadEnds() {
        says(39, "It ends at the first that isn't 0 to 99, or for which there is no SUM.");
        int[][] numbers = {
            {}, {0}, {99}, {100}, {-1}, {1, 100, 2}, {1, 2, -1, 3}, {1, 2, 3, 4, 5, 6, 7, 100},
            {1, 2, 3, 4, 5, 6, 7, 8}, {1, 2, 3, 4, 5, 6, 7, 8, 9}, {1, 2, 3, 4, 5, 6, 7, 8, 100},
        };
        int[] came = {0, 1, 1, 0, 0, 1, 2, 7, 8, 8, 8};
        for (int i = 0; i < numbers.length; i++) {
            SumsCopied x = new SumsCopied();
            fill(x, 0, 16, numbers[i]);
            String call = "load(0) of " + java.util.Arrays.toString(numbers[i]);
            due(call, x.load(0), came[i]);
            for (int s = 0; s < 8; s++) {
                due("isRight(" + s + ") after " + call, x.isRight(s), s < came[i] ? numbers[i][s] : 14 + 11 * s);
            }
        }
        SumsCopied y = new SumsCopied();
        y.sheet(3, 8, 40);
        due("load(3), forty", y.load(3), 8);
    }

    private static void loadFindings() {
        says(39, "or for which there is no SUM. BEYOND: no such sheet. MISSING.");
        SumsCopied x = new SumsCopied();
        int[] beyond = {-1, 4, MOST, LEAST};
        for (int s : beyond) {
            due("load(" + s + ")", x.load(s), BEYOND);
        }
        for (int s = 0; s < 4; s++) {
            due("load(" + s + ")", x.load(s), MISSING);
        }
    }

    private static void judgeFirst() {
        says(40, "numbers of a sheet are MARKS of CHILDREN 0, 1, ..: 0 if so; else 1 and the place of the first that"
            + " isn't so.");
        SumsCopied x = told("child;child;child");
        x.change(0, 3, 9999);
        x.change(2, 3, 1);
        int[][] numbers = {
            {}, {9999}, {9999, 0, 1}, {9998, 0, 1}, {9999, 1, 1}, {9999, 0, 0}, {9999, 0, 1, 0}, {0, 1, 0}, {9999, -1, 1},
        };
        int[] want = {0, 0, 0, 1, 2, 3, 4, 1, 2};
        for (int i = 0; i < numbers.length; i++) {
            fill(x, 1, 16, numbers[i]);
            due("judge(1) of " + java.util.Arrays.toString(numbers[i]), x.judge(1), want[i]);
        }
        SumsCopied nobody = new SumsCopied();
        nobody.sheet(1, 8, 1);
        due("judge(1), nobody there", nobody.judge(1), 1);
        nobody.sheet(1, 8, 0);
        due("judge(1), no numbers, nobody there", nobody.judge(1), 0);
        SumsCopied eight = told("child;child;child;child;child;child;child;child");
        eight.sheet(1, 8, 40);
        due("judge(1), forty for eight", eight.judge(1), 9);
    }

    private static void judgeFindings() {
        says(40, "the place of the first that isn't so. BEYOND: no such sheet. MISSING.");
        SumsCopied x = told("child");
        int[] beyond = {-1, 4, MOST, LEAST};
        for (int s : beyond) {
            due("judge(" + s + ")", x.judge(s), BEYOND);
        }
        for (int s = 0; s < 4; s++) {
            due("judge(" + s + ")", x.judge(s), MISSING);
        }
    }

    // ---- images

    private static void imageKeeps() {
        says(41, "All but THE TAPE and SHEETS is kept: 1.");
        SumsCopied x = told("limit 3;right 7 50;child knows 255;sloppy from 0;sloppy from 0");
        x.go(3);
        x.seed(-77);
        x.hold(0, 1);
        x.hold(9, 2);
        int[] was = seen(x);
        due("image()", x.image(), 1);
        x.limit(9);
        x.load(0);
        read(x, "right 0 1;right 7 1;seven knows 7 from 0");
        for (int c = 0; c < 4; c++) {
            int[] v = {6, 3, c == 3 ? 0 : 3, 4000, 500, 600};
            for (int what = 0; what < 6; what++) {
                x.change(c, what, v[what]);
            }
        }
        x.seed(5);
        x.hold(0, -1);
        x.hold(5, 3);
        x.seats(5);
        due("undo()", x.undo(), 3);
        int[] is = seen(x);
        for (int i = 0; i < was.length; i++) {
            due("place " + i + " of what is seen", is[i], was[i]);
        }
    }

    private static int[] seen(SumsCopied x) {
        int[] all = new int[100];
        int n = 0;
        all[n++] = x.limit(1);
        x.limit(all[0]);
        for (int i = 0; i < 8; i++) {
            all[n++] = x.isRight(i);
            all[n++] = x.count(i);
            for (int c = 0; c < 3; c++) {
                all[n++] = x.of(c, i);
                all[n++] = x.answer(c, i);
            }
        }
        for (int spot = 0; spot < 10; spot++) {
            all[n++] = x.as(spot, 0);
        }
        return all;
    }

    private static void imageLeavesTapeAndSheets() {
        says(41, "All but THE TAPE and SHEETS");
        SumsCopied x = told("child");
        feedAll(x, "lim");
        fill(x, 0, 8, 1, 2);
        fill(x, 1, 8, 3);
        x.image();
        feedAll(x, "it 7");
        x.write(0, 0, 9);
        x.sheet(1, 0, 0);
        x.sheet(2, 16, 5);
        due("undo()", x.undo(), 0);
        due("count(5)", x.count(5), 7);
        due("text()", x.text(), 1);
        due("limit(2)", x.limit(2), 7);
        due("load(0)", x.load(0), 2);
        due("isRight(0)", x.isRight(0), 9);
        due("load(1)", x.load(1), MISSING);
        due("load(2)", x.load(2), 5);
    }

    private static void undoLatest() {
        says(42, "It becomes what was kept latest (which stays): DAY.");
        SumsCopied x = told("child knows 1");
        x.image();
        x.go(4);
        x.image();
        x.go(7);
        due("undo()", x.undo(), 4);
        due("now(1)", x.now(1), 4);
        x.go(7);
        due("undo(), it stays", x.undo(), 4);
        due("undo(), at once", x.undo(), 4);
        x.go(60);
        due("now(1), what follows changes no image", x.now(1), 64);
        due("undo()", x.undo(), 4);
        due("now(1)", x.now(1), 4);
        due("child(0, 0)", x.child(0, 0), 1);
        x.undo();
        due("count(1)", x.count(1), 1);
        due("of(1, 0), nobody any more", x.of(1, 0), BEYOND);
    }

    private static void undoNone() {
        says(42, "NONE: nothing is kept.");
        SumsCopied x = told("child");
        x.go(3);
        due("undo()", x.undo(), NONE);
        due("now(0)", x.now(0), 3);
        x.image();
        x.tear();
        x.go(1);
        due("undo(), torn", x.undo(), NONE);
        due("now(0)", x.now(0), 4);
        due("status(3)", x.status(3), 2);
    }

    private static void tear() {
        says(43, "Nothing is kept: 1 if something was, else 0.");
        SumsCopied x = told("child");
        due("tear(), nothing was", x.tear(), 0);
        x.image();
        x.image();
        due("tear(), two images, the latest counts", x.tear(), 1);
        due("tear()", x.tear(), 0);
        x.go(1);
        x.image();
        x.undo();
        due("tear(), undo() leaves it", x.tear(), 1);
        due("now(0)", x.now(0), 1);
        due("status(-1)", x.status(-1), 0);
    }

    private static void countEach() {
        says(44, "0 DAY, 1 CHILDREN, 2 MARKS of all together, 3 CAUGHT of all together, 4 BISCUITS of all together, 5 bytes"
            + " of THE TAPE, 6 z, 7 SPOTS that hold something. BEYOND: another what.");
        SumsCopied x = copiers();
        x.go(1);
        x.feed(0, 2);
        x.seed(-9);
        x.hold(3, 0);
        x.hold(4, 0);
        int[] want = {1, 3, 8, 2, 203, 2, -9, 2};
        for (int what = 0; what < 8; what++) {
            due("count(" + what + ")", x.count(what), want[what]);
        }
        int[] beyond = {-1, 8, MOST, LEAST};
        for (int what : beyond) {
            due("count(" + what + ")", x.count(what), BEYOND);
        }
        x.seed(MISSING);
        due("count(6), no finding", x.count(6), MISSING);
        due("status(5)", x.status(5), 0);
    }

    private static void statusEach() {
        says(45, "How many acts answered a finding ever (undo() takes none back): which -1: all, 0 to 6: BEYOND to SIZE.");
        SumsCopied x = told("child;child;child;child;child;child;child;child");
        for (int which = -1; which < 7; which++) {
            due("status(" + which + "), at first", x.status(which), 0);
        }
        x.hold(0, 0);
        x.image();
        x.isRight(8);
        x.odds(8, 0, 0);
        x.child(0, 0);
        x.as(0, 1);
        x.as(0, 2);
        x.as(0, 3);
        x.caught(0);
        x.load(0);
        x.load(0);
        x.sheet(0, 8, -1);
        x.undo();
        int[] want = {2, 1, 3, 1, 0, 2, 1};
        for (int which = 0; which < 7; which++) {
            due("status(" + which + ")", x.status(which), want[which]);
        }
        due("status(-1)", x.status(-1), 10);
        due("status(-1), asking alone counts nothing", x.status(-1), 10);
    }

    private static void statusBeyond() {
        says(45, "BEYOND (counted from then on): another one.");
        SumsCopied x = new SumsCopied();
        int[] beyond = {7, -2, MOST, LEAST, BEYOND};
        for (int i = 0; i < beyond.length; i++) {
            due("status(" + beyond[i] + ")", x.status(beyond[i]), BEYOND);
            due("status(0), from then on", x.status(0), i + 1);
            due("status(-1), from then on", x.status(-1), i + 1);
        }
        due("status(6)", x.status(6), 0);
    }

    private static void anyArguments() throws IllegalAccessException {
        // Rule 7 of LANGUAGE.md, which is no promise of the document.
        says(0, "No call may ever throw or fail to end, for any arguments in any state");
        int[] values = {LEAST, -3, -1, 0, 2, 7, 8, 40, 60, 256, MOST};
        SumsCopied[] objects = {new SumsCopied(), copiers(), firstCaughtBehind67()};
        objects[1].sheet(0, 8, 40);
        objects[2].sheet(0, 32, 0);
        objects[2].child(6, 0);
        for (SumsCopied x : objects) {
            for (Method m : SumsCopied.class.getDeclaredMethods()) {
                if (Modifier.isPublic(m.getModifiers())) {
                    allArguments(x, m, values);
                }
            }
        }
    }

    private static void allArguments(SumsCopied x, Method m, int[] values) throws IllegalAccessException {
        int parameters = m.getParameterCount();
        int many = (int) Math.pow(values.length, Math.min(3, parameters));
        for (int which = 0; which < many; which++) {
            Object[] p = new Object[parameters];
            int rest = which;
            for (int i = 0; i < parameters; i++) {
                p[i] = values[rest % values.length];
                rest = i < 2 ? rest / values.length : rest + 3;
            }
            try {
                m.invoke(x, p);
                rows++;
            } catch (InvocationTargetException e) {
                due(m.getName() + java.util.Arrays.toString(p) + " threw " + e.getCause() + ":", 1, 0);
            }
        }
    }
}
