import java.nio.charset.StandardCharsets;

/** The document's terms: each sentence that names a boundary case has a test of its own here. */
public final class TermsEdgesTest {
    private static final int BEYOND = -1000001;
    private static final int FULL = -1000002;
    private static final int KIND = -1000003;
    private static final int NONE = -1000004;
    private static final int STATE = -1000005;
    private static final int MISSING = -1000006;
    private static final int SIZE = -1000007;

    private static String sentence = "";
    private static int sentences = 0;
    private static int rows = 0;
    private static int wrong = 0;

    private static void says(String words) {
        sentence = words;
        sentences++;
    }

    private static void due(String call, long got, long want) {
        rows++;
        if (got != want) {
            wrong++;
            System.out.println("'" + sentence + "': " + call + " answered " + got + ", due is " + want);
        }
    }

    private static void alike(String what, String got, String want) {
        rows++;
        if (!got.equals(want)) {
            wrong++;
            System.out.println("'" + sentence + "': " + what + "\n  is  " + got + "\n  due " + want);
        }
    }

    /** A new object, and what texts tell it; each is read by itself, for a tape has no more than 120 bytes. */
    private static SumsCopied told(String... texts) {
        SumsCopied x = new SumsCopied();
        for (String text : texts) {
            due("text() of '" + text + "'", read(x, text), text.split(";").length);
        }
        return x;
    }

    private static int read(SumsCopied x, String text) {
        byte[] bytes = text.getBytes(StandardCharsets.ISO_8859_1);
        for (int i = 0; i < bytes.length; ) {
            int n = Math.min(4, bytes.length - i);
            int together = 0;
            for (int j = 0; j < n; j++) {
                together = together << 8 | bytes[i + j] & 255;
            }
            x.feed(together, n);
            i += n;
        }
        return x.text();
    }

    private static void fill(SumsCopied x, int s, int bits, int... numbers) {
        x.sheet(s, bits, numbers.length);
        for (int i = 0; i < numbers.length; i++) {
            x.write(s, i, numbers[i]);
        }
    }

    /** More than the 512 calls that are promised, for there is no shorter way to the last DAYS. */
    private static void goTo(SumsCopied x, int day) {
        while (x.now(0) < day) {
            x.go(Math.min(60, day - x.now(0)));
        }
    }

    private static SumsCopied oneOfEachKind() {
        return told("child;sly;sloppy;seven;lazy;honest;seller");
    }

    /** One who KNOWS all, and two SLOPPY ones with many BISCUITS who copy from it: four SLIPS ALIKE on DAY 0. */
    private static SumsCopied copiers() {
        return told("child knows 255;sloppy from 0 biscuits 99;sloppy from 0 biscuits 99");
    }

    public static void main(String[] args) {
        findingNumbers();
        findingOrder();
        findingsChangeNothing();
        askingChangesNothing();
        leastCounts();
        sums();
        limits();
        atMostEightChildren();
        kindsUnderKinds();
        knows();
        from();
        marksBiscuitsCaught();
        slipsOfChild();
        slipsOfSly();
        slipsOfSloppy();
        slipsOfSeven();
        slipsOfLazy();
        slipsOfHonest();
        noAnswerCopied();
        pays();
        lends();
        daysText();
        textsText();
        spots();
        sheets();
        System.out.println(sentences + " sentences, " + rows + " rows, " + wrong + " wrong");
        if (wrong != 0) {
            System.exit(1);
        }
    }

    private static void daysText() {
        knownAnswers();
        copiesFromWhoLends();
        hasAsManyAsItPays();
        answersByThen();
        paysEvenIfItKnowsAll();
        paidNineHundredNinetyNineAtMost();
        paysInOrderOfNumbers();
        neitherRightNorNone();
        limitOrMore();
        withAnyOtherOne();
        whoLentItToo();
        caughtAtMost();
        oneMarkForEachRight();
        marksAtMost();
        whoWasCaughtKnows();
        rightBecomes();
        lastDay();
        answersStay();
        drawsWrap();
    }

    private static void textsText() {
        tapeAtMost();
        tokensAsLongAsCanBe();
        words();
        numbers();
        blanks();
        itemsAndSigns();
        knowsInText();
        fromInText();
        biscuitsInText();
        perhapsInOrder();
        rightInText();
        limitInText();
        faultOfOtherTokens();
        faultOfNinth();
        faultAtTheEnd();
    }

    // ---- findings

    private static void findingNumbers() {
        says("LOW is -1000001; LOW BEYOND, LOW - 1 FULL, LOW - 2 KIND, LOW - 3 NONE, LOW - 4 STATE, LOW - 5 MISSING,"
            + " LOW - 6 SIZE (in longs, too)");
        SumsCopied x = told("child;child;child;child;child;child;child;child");
        x.hold(0, 0);
        due("isRight(8)", x.isRight(8), -1000001);
        due("odds(8, 0, 0)", x.odds(8, 0, 0), -1000001L);
        due("child(0, 0)", x.child(0, 0), -1000002);
        due("as(0, 1)", x.as(0, 1), -1000003);
        due("undo()", x.undo(), -1000004);
        due("load(0)", x.load(0), -1000006);
        due("sheet(0, 8, -1)", x.sheet(0, 8, -1), -1000007);
        goTo(x, 99999);
        due("go(1)", x.go(1), -1000005);
    }

    private static void findingOrder() {
        says("Each act tells its findings in the order in which they are asked (that of its words)");
        SumsCopied x = told("child;child;child;child;child;child;child;honest");
        due("child(7, 0), none free", x.child(7, 0), BEYOND);
        due("child(0, 256), none free", x.child(0, 256), BEYOND);
        due("caught(8)", x.caught(8), BEYOND);
        due("when(7, 10000)", x.when(7, 10000), BEYOND);
        due("when(8, 9999)", x.when(8, 9999), BEYOND);
        due("as(0, 7), holds nothing", x.as(0, 7), BEYOND);
        due("as(0, 1), holds nothing", x.as(0, 1), MISSING);
        due("sheet(4, 8, -1)", x.sheet(4, 8, -1), BEYOND);
        due("sheet(0, 9, -1)", x.sheet(0, 9, -1), BEYOND);
        due("sheet(4, 8, 41)", x.sheet(4, 8, 41), BEYOND);
        due("write(0, 40, 0), missing", x.write(0, 40, 0), MISSING);
        due("sources(4, 8)", x.sources(4, 8), BEYOND);
        due("sources(0, 8), missing", x.sources(0, 8), MISSING);
        due("fits(0, 8), missing", x.fits(0, 8), MISSING);
        due("knew(0, 8), missing", x.knew(0, 8), MISSING);
        due("kinds(0, 8), missing", x.kinds(0, 8), MISSING);
        fill(x, 0, 8, 99);
        due("knew(0, 8), nothing fits", x.knew(0, 8), BEYOND);
        due("knew(0, 7), nothing fits", x.knew(0, 7), NONE);
        fill(x, 1, 16, 1, 2);
        due("copy(4, 0, 3, 0, 9)", x.copy(4, 0, 3, 0, 9), BEYOND);
        due("copy(3, 0, 4, 0, 9)", x.copy(3, 0, 4, 0, 9), BEYOND);
        due("copy(3, 0, 0, 0, 9)", x.copy(3, 0, 0, 0, 9), MISSING);
        due("copy(0, 0, 1, 0, 9)", x.copy(0, 0, 1, 0, 9), KIND);
        for (int i = 0; i < 30; i++) {
            x.feed(0, 4);
        }
        due("feed(0, 5), full", x.feed(0, 5), BEYOND);
        due("feed(0, 0), full", x.feed(0, 0), BEYOND);
        due("feed(0, 1), full", x.feed(0, 1), FULL);
        int[] found = {15, 1, 1, 1, 0, 7, 0};
        for (int which = 0; which < 7; which++) {
            due("status(" + which + ")", x.status(which), found[which]);
        }
        goTo(x, 99999);
        due("go(61), last DAY", x.go(61), BEYOND);
        due("seats(21), last DAY", x.seats(21), BEYOND);
    }

    /** Eight CHILDREN some days on, an image of the day ahead, sheets and THE TAPE in use. */
    private static SumsCopied busy() {
        SumsCopied x = new SumsCopied();
        int[] kinds = {0, 2, 2, 3, 4, 5, 6, 1};
        int[] knows = {255, 2, 0, 0, 0, 0, 5, 128};
        int[] from = {7, 0, 0, 1, 0, 1, 0, 6};
        for (int c = 0; c < 8; c++) {
            x.child(kinds[c], knows[c]);
        }
        for (int c = 0; c < 8; c++) {
            x.change(c, 2, from[c]);
        }
        x.change(1, 4, 50);
        x.change(2, 4, 60);
        x.go(2);
        x.hold(0, 0);
        x.hold(9, 7);
        x.image();
        x.go(1);
        x.limit(3);
        x.seed(12345);
        fill(x, 0, 8, 1, 2, 3);
        fill(x, 1, 16, 4, 5);
        x.sheet(2, 32, 0);
        for (char sign : "limit 4;right 0 77".toCharArray()) {
            x.feed(sign, 1);
        }
        for (int i = 0; i < 25; i++) {
            x.feed(0x20202020, 4);
        }
        return x;
    }

    /** All that can be seen of an object; it is of no more use then. */
    private static String all(SumsCopied x) {
        StringBuilder seen = new StringBuilder();
        children(x, seen, true);
        for (int s = 0; s < 4; s++) {
            for (int t = 0; t < 4; t++) {
                seen.append(' ').append(x.copy(s, 0, t, 0, 0));
            }
        }
        for (int s = 0; s < 4; s++) {
            seen.append(" sheet ").append(x.load(s));
            for (int sum = 0; sum < 8; sum++) {
                seen.append(' ').append(x.isRight(sum));
            }
        }
        seen.append(" text ").append(x.text()).append(' ').append(x.isRight(0)).append(' ').append(x.limit(1));
        seen.append(" undo ").append(x.undo());
        children(x, seen, false);
        return seen.toString();
    }

    private static void children(SumsCopied x, StringBuilder seen, boolean answers) {
        int limit = x.limit(1);
        x.limit(limit);
        seen.append("limit ").append(limit);
        for (int what = 0; what < 8; what++) {
            seen.append(' ').append(x.count(what));
        }
        for (int i = 0; i < 10; i++) {
            seen.append(' ').append(i < 8 ? x.isRight(i) : 0).append(' ').append(x.as(i, 0));
        }
        for (int c = 0; c < 8; c++) {
            for (int what = 0; what < 6; what++) {
                seen.append(' ').append(x.of(c, what));
            }
            for (int sum = 0; sum < 8 && answers; sum++) {
                seen.append(' ').append(x.answer(c, sum));
            }
        }
    }

    private static void findingsChangeNothing() {
        says("one that answers a finding changes nothing but status()");
        SumsCopied x = busy();
        long[] beyond = {
            x.right(8, 0), x.right(0, 100), x.isRight(8), x.limit(0), x.limit(10), x.child(7, 0), x.child(0, 256),
            x.of(8, 0), x.of(0, 9), x.change(8, 0, 0), x.change(0, 6, 0), x.change(0, 2, 0), x.change(0, 2, 8),
            x.change(0, 3, 10000), x.change(0, 4, 1000), x.answer(8, 0), x.answer(0, 8), x.slips(8, 0, 0),
            x.slips(0, 0, 100), x.alike(1, 1), x.alike(0, 8), x.go(0), x.go(61), x.now(7), x.chain(8),
            x.ahead(0, 0, 1), x.ahead(0, 3, 61), x.writes(0, 8, 1), x.writes(0, 0, 61), x.caught(8), x.when(8, 0),
            x.copyFrom(8, 0), x.kindFor(0, 21), x.learn(0, 21), x.limitFor(21), x.forbid(13), x.biscuitsFor(0, 21),
            x.sources(4, 0), x.sources(0, 8), x.fits(0, 8), x.knew(0, 8), x.kinds(0, 8), x.seats(0), x.seats(21),
            x.odds(0, 21, 0), x.feed(0, 5), x.hold(10, 0), x.hold(0, 8), x.as(10, 0), x.sheet(4, 8, 1),
            x.sheet(0, 9, 1), x.sheet(0, 8, 41), x.write(4, 0, 0), x.write(0, 3, 0), x.copy(4, 0, 0, 0, 0),
            x.copy(0, 0, 0, 1, 3), x.load(4), x.judge(4), x.count(8), x.status(7),
        };
        for (int i = 0; i < beyond.length; i++) {
            due("refused call " + i, beyond[i], BEYOND);
        }
        due("child(0, 0)", x.child(0, 0), FULL);
        due("feed(0, 3)", x.feed(0, 3), FULL);
        due("as(0, 1)", x.as(0, 1), KIND);
        due("copy(0, 0, 1, 0, 1)", x.copy(0, 0, 1, 0, 1), KIND);
        due("caught(5)", x.caught(5), NONE);
        due("when(5, 1)", x.when(5, 1), NONE);
        due("knew(1, 5)", x.knew(1, 5), NONE);
        due("sources(3, 0)", x.sources(3, 0), MISSING);
        due("as(5, 0)", x.as(5, 0), MISSING);
        due("write(3, 0, 0)", x.write(3, 0, 0), MISSING);
        due("sheet(0, 8, -1)", x.sheet(0, 8, -1), SIZE);
        due("sheet(0, 0, -1)", x.sheet(0, 0, -1), SIZE);
        due("status(-1)", x.status(-1), beyond.length + 12);
        alike("all", all(x), all(busy()));
        SumsCopied y = told("child knows 3");
        due("undo(), nothing kept", y.undo(), NONE);
        due("of(0, 1)", y.of(0, 1), 3);
    }

    private static void askingChangesNothing() {
        says("what will be (nothing changes)");
        SumsCopied x = busy();
        for (int c = 0; c < 8; c++) {
            x.ahead(c, 3, 60);
            x.writes(c, 1, 59);
            x.caught(c);
            x.when(c, 9999);
            x.copyFrom(c, 20);
            x.kindFor(c, 20);
            x.learn(c, 20);
            x.biscuitsFor(c, 20);
            x.sources(0, c);
            x.fits(0, c);
            x.knew(0, c);
            x.kinds(0, c);
            x.odds(c, 20, 1);
        }
        x.limitFor(20);
        x.forbid(12);
        x.judge(0);
        alike("all", all(x), all(busy()));
    }

    private static void leastCounts() {
        says("of several that would do the least number counts, where nothing else is told");
        SumsCopied x = told("child knows 255;child knows 255;child;child knows 255");
        due("copyFrom(2, 3), 0, 1 and 3 do", x.copyFrom(2, 3), 0);
        x.change(0, 1, 254);
        due("copyFrom(2, 3), 1 and 3 do", x.copyFrom(2, 3), 1);
        due("kindFor(2, 3), all do", x.kindFor(2, 3), 0);
        x.change(2, 2, 1);
        x.change(2, 4, 0);
        x.change(2, 1, 17);
        due("kindFor(2, 3), a SELLER alone PAYS nothing", x.kindFor(2, 3), 6);
        due("learn(2, 3), 1 to 3 and 5 to 7 do", x.learn(2, 3), 1);
        due("limitFor(3), all do", x.limitFor(3), 1);
        due("forbid(3), all do", x.forbid(3), 0);
        due("biscuitsFor(0, 3), all do", x.biscuitsFor(0, 3), 0);
        x.sheet(0, 8, 0);
        due("knew(0, 2), all do", x.knew(0, 2), 0);
    }

    // ---- sums, children

    private static void sums() {
        says("SUMS 0 to 7, each with what is RIGHT (0 to 99; 11 times its number and 14, at first).");
        SumsCopied x = new SumsCopied();
        due("isRight(-1)", x.isRight(-1), BEYOND);
        due("isRight(8)", x.isRight(8), BEYOND);
        for (int s = 0; s < 8; s++) {
            due("isRight(" + s + ")", x.isRight(s), 11 * s + 14);
        }
        for (int s = 0; s < 8; s += 7) {
            due("right(" + s + ", -1)", x.right(s, -1), BEYOND);
            due("right(" + s + ", 100)", x.right(s, 100), BEYOND);
            due("right(" + s + ", 99)", x.right(s, 99), 11 * s + 14);
            due("right(" + s + ", 0)", x.right(s, 0), 99);
            due("isRight(" + s + ")", x.isRight(s), 0);
        }
    }

    private static void limits() {
        says("LIMIT (1 to 9; 2 at first).");
        SumsCopied x = new SumsCopied();
        due("limit(0)", x.limit(0), BEYOND);
        due("limit(10)", x.limit(10), BEYOND);
        due("limit(9), 2 at first", x.limit(9), 2);
        due("limit(1)", x.limit(1), 9);
        due("limit(-1)", x.limit(-1), BEYOND);
        due("limit(2)", x.limit(2), 1);
    }

    private static void atMostEightChildren() {
        says("CHILDREN 0, 1, .. (at most 8)");
        SumsCopied x = new SumsCopied();
        due("of(0, 0), none", x.of(0, 0), BEYOND);
        for (int c = 0; c < 8; c++) {
            due("child(0, 0)", x.child(0, 0), c);
            due("of(" + c + ", 0)", x.of(c, 0), 0);
            due("of(" + (c + 1) + ", 0)", x.of(c + 1, 0), BEYOND);
        }
        due("child(0, 0), the 9th", x.child(0, 0), FULL);
        due("count(1)", x.count(1), 8);
        due("of(8, 0)", x.of(8, 0), BEYOND);
    }

    private static void kindsUnderKinds() {
        says("0 CHILD; 1 SLY, 2 SLOPPY, 5 HONEST under CHILD; 3 SEVEN under SLOPPY; 4 LAZY under SEVEN;"
            + " 6 SELLER under SLY");
        SumsCopied x = oneOfEachKind();
        String[] above = {"0", "01", "02", "023", "0234", "05", "016"};
        for (int c = 0; c < 7; c++) {
            due("of(" + c + ", 0)", x.of(c, 0), c);
            x.hold(c, c);
            for (int kind = 0; kind < 7; kind++) {
                due("as(" + c + ", " + kind + ")", x.as(c, kind), above[c].contains("" + kind) ? c : KIND);
            }
        }
    }

    private static void knows() {
        says("each KNOWS some SUMS (a set, 0 to 255; none at first)");
        SumsCopied x = told("child");
        due("of(0, 1), at first", x.of(0, 1), 0);
        due("change(0, 1, 255)", x.change(0, 1, 255), 0);
        due("change(0, 1, 256)", x.change(0, 1, 256), BEYOND);
        due("change(0, 1, -1)", x.change(0, 1, -1), BEYOND);
        due("change(0, 1, 0)", x.change(0, 1, 0), 255);
        due("child(0, 255)", x.child(0, 255), 1);
        due("of(1, 1)", x.of(1, 1), 255);
    }

    private static void from() {
        says("copies FROM another one (or -1: nobody, at first)");
        SumsCopied x = told("child;child");
        due("of(0, 2), at first", x.of(0, 2), -1);
        due("change(0, 2, 0), itself", x.change(0, 2, 0), BEYOND);
        due("change(1, 2, 1), itself", x.change(1, 2, 1), BEYOND);
        due("change(0, 2, 2), nobody there", x.change(0, 2, 2), BEYOND);
        due("change(0, 2, -2)", x.change(0, 2, -2), BEYOND);
        due("change(0, 2, 1)", x.change(0, 2, 1), -1);
        due("change(0, 2, -1)", x.change(0, 2, -1), 1);
        due("of(0, 2)", x.of(0, 2), -1);
    }

    private static void marksBiscuitsCaught() {
        says("has MARKS (0 to 9999; 0 at first), BISCUITS (0 to 999; 5 at first), was CAUGHT (how often; 0 to 9999;"
            + " 0 at first)");
        SumsCopied x = told("child");
        int[] first = {0, 5, 0};
        int[] most = {9999, 999, 9999};
        for (int i = 0; i < 3; i++) {
            int what = 3 + i;
            due("of(0, " + what + "), at first", x.of(0, what), first[i]);
            due("change(0, " + what + ", most)", x.change(0, what, most[i]), first[i]);
            due("change(0, " + what + ", most and 1)", x.change(0, what, most[i] + 1), BEYOND);
            due("of(0, " + what + ")", x.of(0, what), most[i]);
            due("change(0, " + what + ", 0)", x.change(0, what, 0), most[i]);
            due("change(0, " + what + ", -1)", x.change(0, what, -1), BEYOND);
            due("of(0, " + what + ")", x.of(0, what), 0);
        }
    }

    /** What a CHILD of a KIND writes for answers to even and to odd SUMS. */
    private static void slipRows(SumsCopied x, int child, int[] answers, int[] even, int[] odd) {
        for (int i = 0; i < answers.length; i++) {
            for (int s = 0; s < 8; s++) {
                String call = "slips(" + child + ", " + s + ", " + answers[i] + ")";
                due(call, x.slips(child, s, answers[i]), s % 2 == 0 ? even[i] : odd[i]);
            }
        }
    }

    private static void slipsOfChild() {
        says("CHILD: a.");
        int[] answers = {0, 1, 7, 10, 17, 77, 98, 99};
        slipRows(oneOfEachKind(), 0, answers, answers, answers);
    }

    private static void slipsOfSly() {
        SumsCopied x = oneOfEachKind();
        String[] said = {"SLY: as a CHILD, but -1, if s is a multiple of 4.", "SELLER: as a SLY one."};
        int[] kinds = {1, 6};
        for (int i = 0; i < 2; i++) {
            says(said[i]);
            for (int s = 0; s < 8; s++) {
                int want = s == 0 || s == 4 ? -1 : 71;
                due("slips(" + kinds[i] + ", " + s + ", 71)", x.slips(kinds[i], s, 71), want);
            }
            due("slips(.., 1, 0)", x.slips(kinds[i], 1, 0), 0);
            due("slips(.., 7, 99)", x.slips(kinds[i], 7, 99), 99);
            due("slips(.., 0, 0)", x.slips(kinds[i], 0, 0), -1);
        }
    }

    private static void slipsOfSloppy() {
        says("SLOPPY: a with its two digits (of 00 to 99) exchanged, if s is odd, else a.");
        int[] answers = {0, 1, 9, 10, 11, 17, 90, 98, 99};
        int[] odd = {0, 10, 90, 1, 11, 71, 9, 89, 99};
        slipRows(oneOfEachKind(), 2, answers, answers, odd);
    }

    private static void slipsOfSeven() {
        says("SEVEN: as a SLOPPY one, but with a digit 1 for each digit 7 of that.");
        int[] answers = {0, 7, 70, 77, 17, 71, 72, 67, 78, 99};
        int[] even = {0, 1, 10, 11, 11, 11, 12, 61, 18, 99};
        int[] odd = {0, 10, 1, 11, 11, 11, 21, 16, 81, 99};
        slipRows(oneOfEachKind(), 3, answers, even, odd);
    }

    private static void slipsOfLazy() {
        says("LAZY: as a SEVEN, but -1, if DAY is odd.");
        SumsCopied x = oneOfEachKind();
        int[] answers = {0, 7, 72, 99};
        int[] none = {-1, -1, -1, -1};
        slipRows(x, 4, answers, new int[] {0, 1, 12, 99}, new int[] {0, 10, 21, 99});
        x.go(1);
        slipRows(x, 4, answers, none, none);
        x.go(1);
        slipRows(x, 4, answers, new int[] {0, 1, 12, 99}, new int[] {0, 10, 21, 99});
    }

    private static void slipsOfHonest() {
        says("HONEST: -1.");
        int[] none = {-1, -1, -1};
        slipRows(oneOfEachKind(), 5, new int[] {0, 41, 99}, none, none);
    }

    private static void noAnswerCopied() {
        says("(-1: no answer; an answer -1 that is copied is -1.)");
        SumsCopied x = oneOfEachKind();
        for (int c = 0; c < 7; c++) {
            slipRows(x, c, new int[] {-1}, new int[] {-1}, new int[] {-1});
        }
        SumsCopied y = told("child knows 2;child from 0;sloppy from 0;seven from 0;lazy from 0;sly from 0;seller from 0");
        y.go(1);
        for (int c = 1; c < 7; c++) {
            due("of(" + c + ", 8), SUM 1 alone has an answer", y.of(c, 8), 2);
        }
    }

    private static void pays() {
        says("CHILD: 1. SLY: as a CHILD. SELLER: 0. SLOPPY: as a CHILD, and 1. SEVEN, LAZY: as a SLOPPY one. HONEST: 0.");
        SumsCopied x = oneOfEachKind();
        int[] price = {1, 1, 2, 2, 2, 0, 0};
        for (int c = 0; c < 7; c++) {
            due("of(" + c + ", 6)", x.of(c, 6), price[c]);
        }
        x.go(1);
        for (int c = 0; c < 7; c++) {
            due("of(" + c + ", 6), DAY odd", x.of(c, 6), price[c]);
        }
    }

    private static void lends() {
        says("CHILD: yes. HONEST: no. LAZY: if DAY is even. SELLER: if it has fewer than 20 BISCUITS. (Others as a CHILD.)");
        SumsCopied x = oneOfEachKind();
        int[] even = {1, 1, 1, 1, 1, 0, 1};
        int[] odd = {1, 1, 1, 1, 0, 0, 1};
        for (int day = 0; day < 4; day++) {
            for (int c = 0; c < 7; c++) {
                due("of(" + c + ", 7), DAY " + day, x.of(c, 7), day % 2 == 0 ? even[c] : odd[c]);
            }
            x.go(1);
        }
        int[] has = {0, 19, 20, 21, 999};
        for (int biscuits : has) {
            for (int c = 0; c < 7; c++) {
                x.change(c, 4, biscuits);
                due("of(" + c + ", 7), " + biscuits, x.of(c, 7), c == 6 && biscuits >= 20 ? 0 : even[c]);
            }
        }
    }

    // ---- a DAY

    private static void knownAnswers() {
        says("to a SUM that one KNOWS what is RIGHT");
        SumsCopied x = told("child knows 129;child;child knows 255");
        x.go(1);
        int[] want = {14, -1, -1, -1, -1, -1, -1, 91};
        for (int s = 0; s < 8; s++) {
            due("answer(0, " + s + ")", x.answer(0, s), want[s]);
            due("answer(1, " + s + "), knows none", x.answer(1, s), -1);
            due("answer(2, " + s + "), knows all", x.answer(2, s), 11 * s + 14);
        }
        SumsCopied y = told("child knows 255;sloppy knows 2 from 0");
        y.go(1);
        due("answer(1, 1), known, not copied", y.answer(1, 1), 25);
        due("answer(1, 3), copied", y.answer(1, 3), 74);
    }

    private static void copiesFromWhoLends() {
        says("if it copies FROM one who LENDS");
        SumsCopied honest = told("honest knows 255;child from 0");
        honest.go(1);
        due("of(1, 8), from an HONEST one", honest.of(1, 8), 0);
        due("of(1, 4)", honest.of(1, 4), 5);
        due("of(0, 4)", honest.of(0, 4), 5);

        SumsCopied lazy = told("lazy knows 255;child from 0");
        int[] answered = {255, 0, 255, 0};
        int[] left = {4, 4, 3, 3};
        for (int day = 0; day < 4; day++) {
            lazy.go(1);
            due("of(1, 8), from a LAZY one, DAY " + day, lazy.of(1, 8), answered[day]);
            due("of(1, 4), DAY " + day, lazy.of(1, 4), left[day]);
        }

        SumsCopied seller = told("seller knows 255 biscuits 19;child from 0;child from 0");
        seller.go(1);
        due("of(1, 8), SELLER with 19", seller.of(1, 8), 255);
        due("of(2, 8), SELLER with 20 by then", seller.of(2, 8), 0);
        due("of(0, 4)", seller.of(0, 4), 20);
        seller.go(1);
        due("of(1, 8), SELLER with 20", seller.of(1, 8), 0);
        due("of(1, 4)", seller.of(1, 4), 4);
    }

    private static void hasAsManyAsItPays() {
        says("and it has as many BISCUITS as it PAYS");
        String[] kinds = {"child", "sly", "sloppy", "seven", "lazy", "honest", "seller"};
        int[] price = {1, 1, 2, 2, 2, 0, 0};
        int[] copied = {255, 238, 255, 255, 255, 0, 238};
        for (int kind = 0; kind < 7; kind++) {
            for (int has = 0; has <= 3; has++) {
                SumsCopied x = told("child knows 255;" + kinds[kind] + " from 0 biscuits " + has);
                x.go(1);
                boolean can = has >= price[kind];
                String who = kinds[kind] + " with " + has;
                due("of(1, 8), " + who, x.of(1, 8), can ? copied[kind] : 0);
                due("of(1, 4), " + who, x.of(1, 4), can ? has - price[kind] : has);
                due("of(0, 4), " + who, x.of(0, 4), can ? 5 + price[kind] : 5);
            }
        }
    }

    private static void answersByThen() {
        says("as it is by then (of a greater number: that of the day ahead; -1 at first), else -1");
        SumsCopied x = told("child;child knows 255;child from 1;child from 2");
        x.change(0, 2, 1);
        int[][] right = {
            {14, 25, 36, 47, 58, 69, 80, 91}, {43, 77, 11, 45, 79, 13, 47, 81},
        };
        for (int day = 0; day < 2; day++) {
            x.go(1);
            for (int s = 0; s < 8; s++) {
                due("answer(0, " + s + "), DAY " + day, x.answer(0, s), day == 0 ? -1 : right[0][s]);
                due("answer(2, " + s + "), DAY " + day, x.answer(2, s), right[day][s]);
                due("answer(3, " + s + "), DAY " + day, x.answer(3, s), right[day][s]);
            }
        }
        due("of(0, 4), paid on both", x.of(0, 4), 3);
        x.change(0, 2, -1);
        x.go(1);
        due("of(0, 8), nobody", x.of(0, 8), 0);
    }

    private static void paysEvenIfItKnowsAll() {
        says("If it copies so (even if it KNOWS all), it PAYS");
        SumsCopied x = told("child knows 255;sloppy knows 255 from 0;child knows 255");
        due("go(1)", x.go(1), 24);
        due("of(1, 4)", x.of(1, 4), 3);
        due("of(0, 4)", x.of(0, 4), 7);
        due("of(2, 4), copies from nobody", x.of(2, 4), 5);
        x.go(2);
        due("of(1, 4), one is too few", x.of(1, 4), 1);
        due("of(0, 4)", x.of(0, 4), 9);
    }

    private static void paidNineHundredNinetyNineAtMost() {
        says("(its BISCUITS are less, those of the other one more, 999 at most)");
        int[] has = {996, 997, 998, 999};
        int[] then = {998, 999, 999, 999};
        for (int i = 0; i < 4; i++) {
            SumsCopied x = told("child biscuits " + has[i] + ";sloppy from 0");
            x.go(1);
            due("of(0, 4), had " + has[i], x.of(0, 4), then[i]);
            due("of(1, 4), less all the same", x.of(1, 4), 3);
        }
    }

    private static void paysInOrderOfNumbers() {
        says("CHILDREN by numbers write ANSWERS");
        // 0 pays 1 before 1 writes, so 1, who had none, can pay 2.
        SumsCopied x = told("child;child biscuits 0;child knows 255");
        x.change(0, 2, 1);
        x.change(1, 2, 2);
        x.go(1);
        int[] left = {4, 0, 6};
        for (int c = 0; c < 3; c++) {
            due("of(" + c + ", 4)", x.of(c, 4), left[c]);
        }
        x.go(1);
        due("of(1, 8)", x.of(1, 8), 255);
        // 0, who has none, writes before 1 pays it.
        SumsCopied y = told("child biscuits 0;child from 0;child knows 255");
        y.change(0, 2, 2);
        y.go(1);
        due("of(2, 4)", y.of(2, 4), 5);
        due("of(0, 4)", y.of(0, 4), 1);
        y.go(1);
        due("of(2, 4)", y.of(2, 4), 6);
        due("of(0, 4)", y.of(0, 4), 1);
        due("of(0, 8)", y.of(0, 8), 255);
    }

    private static void neitherRightNorNone() {
        says("SUMS to which both have the same ANSWER, which is neither RIGHT nor -1.");
        SumsCopied none = told("limit 1;child;child");
        none.go(1);
        due("now(2), all have no answer", none.now(2), 0);
        due("alike(0, 1)", none.alike(0, 1), 0);
        SumsCopied right = told("limit 1;child knows 255;child knows 255");
        right.go(1);
        due("now(2), all are right", right.now(2), 0);
        due("alike(0, 1), by what is RIGHT now", right.alike(0, 1), 255);
        right.right(7, 91);
        due("alike(0, 1), one is RIGHT now", right.alike(0, 1), 127);
        // Of 25, 47, 69, 91 to odd SUMS 52, 74, 96, 19, but a SEVEN writes 14 for the 74.
        SumsCopied unlike = told("limit 4;child knows 255;sloppy from 0;seven from 0");
        unlike.go(1);
        due("now(2), three alike, LIMIT 4", unlike.now(2), 0);
        unlike = told("limit 3;child knows 255;sloppy from 0;seven from 0");
        unlike.go(1);
        due("now(2), three alike, LIMIT 3", unlike.now(2), 2);
    }

    private static void limitOrMore() {
        says("Who has LIMIT or more ALIKE");
        for (int limit = 1; limit <= 9; limit++) {
            SumsCopied four = copiers();
            four.limit(limit);
            four.go(1);
            due("now(2), four alike, LIMIT " + limit, four.now(2), limit <= 4 ? 2 : 0);
            // Both have all eight ANSWERS of the day ahead from a greater number.
            SumsCopied eight = told("child;child;child knows 255");
            eight.limit(limit);
            eight.change(0, 2, 2);
            eight.change(1, 2, 2);
            eight.go(2);
            due("now(2), eight alike, LIMIT " + limit, eight.now(2), limit <= 8 ? 2 : 0);
        }
    }

    private static void withAnyOtherOne() {
        says("with any other one is CAUGHT once more");
        // 1 has two alike with 2 and two with 3, who have none alike.
        String kids = "child knows 255;sloppy from 0;sloppy knows 160 from 0;sloppy knows 10 from 0";
        SumsCopied x = told("limit 3", kids);
        x.go(1);
        due("now(2), LIMIT 3: two and two are not three", x.now(2), 0);
        SumsCopied y = told("limit 2", kids);
        y.go(1);
        int[] want = {0, 1, 1, 1};
        for (int c = 0; c < 4; c++) {
            due("of(" + c + ", 5), LIMIT 2: once, not twice", y.of(c, 5), want[c]);
        }
    }

    private static void whoLentItToo() {
        says("both get nothing, says the law, also she who lent it");
        SumsCopied x = told("limit 4;child knows 255;sloppy from 0;child from 1");
        due("go(1)", x.go(1), 8);
        int[] caught = {0, 1, 1};
        int[] marks = {8, 0, 0};
        for (int c = 0; c < 3; c++) {
            due("of(" + c + ", 5)", x.of(c, 5), caught[c]);
            due("of(" + c + ", 3)", x.of(c, 3), marks[c]);
        }
    }

    private static void caughtAtMost() {
        says("is CAUGHT once more (9999 at most)");
        SumsCopied x = copiers();
        x.change(1, 5, 9998);
        x.change(2, 5, 9997);
        x.go(1);
        due("of(1, 5)", x.of(1, 5), 9999);
        due("of(2, 5)", x.of(2, 5), 9998);
        x.go(1);
        due("of(1, 5), no more", x.of(1, 5), 9999);
        due("of(2, 5)", x.of(2, 5), 9999);
        due("of(1, 1), learns all the same", x.of(1, 1), 3);
        due("of(1, 3), no marks all the same", x.of(1, 3), 0);
    }

    private static void oneMarkForEachRight() {
        says("all others have one MARK more for each ANSWER that is RIGHT");
        SumsCopied x = told("limit 5", "child knows 255;sloppy from 0;sloppy from 0;child;child knows 1;honest knows 128 from 0");
        due("go(1)", x.go(1), 18);
        int[] marks = {8, 4, 4, 0, 1, 1};
        for (int c = 0; c < 6; c++) {
            due("of(" + c + ", 3)", x.of(c, 3), marks[c]);
        }
        SumsCopied y = copiers();
        due("go(1), both are caught", y.go(1), 8);
        due("of(1, 3), none for four that are RIGHT", y.of(1, 3), 0);
    }

    private static void marksAtMost() {
        says("one MARK more for each ANSWER that is RIGHT (9999 at most)");
        int[] had = {9990, 9991, 9992, 9998, 9999};
        int[] then = {9998, 9999, 9999, 9999, 9999};
        for (int i = 0; i < had.length; i++) {
            SumsCopied x = told("child knows 255");
            x.change(0, 3, had[i]);
            due("go(1), had " + had[i], x.go(1), then[i]);
        }
    }

    private static void whoWasCaughtKnows() {
        says("Who was CAUGHT KNOWS SUM DAY modulo 8 from then on.");
        for (int day = 0; day <= 17; day++) {
            SumsCopied x = told("child knows 255;sloppy biscuits 99;sloppy biscuits 99;child");
            if (day > 0) {
                x.go(day);
            }
            x.change(1, 2, 0);
            x.change(2, 2, 0);
            x.right(1, 12);
            x.right(3, 12);
            x.go(1);
            due("of(1, 1), DAY " + day, x.of(1, 1), 1 << day % 8);
            due("of(2, 1), DAY " + day, x.of(2, 1), 1 << day % 8);
            due("of(3, 1), not caught", x.of(3, 1), 0);
            due("answer(1, 1), on that DAY", x.answer(1, 1), 21);
            int next = x.isRight(day % 8);
            x.change(1, 2, -1);
            x.go(1);
            due("answer(1, " + day % 8 + "), from then on", x.answer(1, day % 8), next);
            due("of(1, 8)", x.of(1, 8), 1 << day % 8);
        }
    }

    private static void rightBecomes() {
        says("What is RIGHT becomes, of each SUM s, three times that, and s, and 1, modulo 100.");
        int[] sum = {0, 0, 0, 1, 1, 2, 7, 7, 7, 5};
        int[] was = {0, 33, 99, 66, 99, 32, 0, 99, 64, 98};
        int[] then = {1, 0, 98, 0, 99, 99, 8, 5, 0, 0};
        for (int i = 0; i < sum.length; i++) {
            SumsCopied x = new SumsCopied();
            x.right(sum[i], was[i]);
            x.go(1);
            due("isRight(" + sum[i] + "), was " + was[i], x.isRight(sum[i]), then[i]);
        }
    }

    private static void lastDay() {
        says("DAY is one more (99999 at most).");
        SumsCopied x = told("child knows 255;lazy from 0;child from 1");
        goTo(x, 99998);
        x.change(1, 4, 999);
        x.change(2, 4, 9);
        x.right(1, 12);
        due("now(0)", x.now(0), 99998);
        due("writes(1, 1, 1), DAY even", x.writes(1, 1, 1), 21);
        due("writes(1, 1, 2), DAY odd", x.writes(1, 1, 2), -1);
        due("writes(1, 1, 3), DAY stays odd", x.writes(1, 1, 3), -1);
        due("ahead(2, 4, 60), a LAZY one has lent once", x.ahead(2, 4, 60), 8);
        x.go(1);
        due("now(0)", x.now(0), 99999);
        due("go(1)", x.go(1), STATE);
        due("now(0)", x.now(0), 99999);
    }

    private static void answersStay() {
        says("ANSWERS stay till they are written anew.");
        SumsCopied x = copiers();
        x.go(1);
        x.right(1, 0);
        x.change(1, 0, 5);
        x.change(1, 1, 255);
        x.change(1, 2, -1);
        x.change(1, 4, 0);
        read(x, "child;limit 9");
        int[] copied = {14, 52, 36, 74, 58, 96, 80, 19};
        for (int s = 0; s < 8; s++) {
            due("answer(1, " + s + ")", x.answer(1, s), copied[s]);
        }
        x.go(1);
        due("answer(1, 1), anew", x.answer(1, 1), 0);
        due("answer(1, 2), anew", x.answer(1, 2), 11);
        x.change(1, 1, 0);
        x.go(1);
        due("of(1, 8), anew, none", x.of(1, 8), 0);
    }

    // ---- draws

    private static void drawsWrap() {
        says("z is told (1 at first); each makes it z * 1103515245 + 12345 (an int), and gives z >>> 8.");
        SumsCopied x = new SumsCopied();
        due("count(6), at first", x.count(6), 1);
        // From 1: 1103527590 and -1770082073, which give 4310654 and 9862832: rests 6 and 0.
        // From 18: -1611549725 and -2092240416, which give 10482099 and 8604401: rests 3 and 1.
        // From 37: -2119596550 and -178493525, which give 8497541 and 16079975: rests 5 and 7.
        int[] seeds = {1, 18, 37};
        int[] then = {-1770082073, -2092240416, -178493525};
        int[] first = {6, 3, 5};
        int[] second = {0, 1, 7};
        for (int i = 0; i < 3; i++) {
            SumsCopied y = told("child;child;child;child;child;child;child;child");
            y.seed(seeds[i]);
            y.seats(1);
            due("count(6), from " + seeds[i], y.count(6), then[i]);
            for (int c = 0; c < 8; c++) {
                due("of(" + c + ", 2), from " + seeds[i], y.of(c, 2), c == first[i] ? second[i] : -1);
            }
        }
    }

    // ---- texts

    /** Texts that are none, each on an object of its own with two CHILDREN, and the place of the FAULT. */
    private static void faults(Object... textsAndPlaces) {
        for (int i = 0; i < textsAndPlaces.length; i += 2) {
            String text = (String) textsAndPlaces[i];
            SumsCopied x = told("child;child");
            due("text() of '" + text + "'", read(x, text), -1 - (Integer) textsAndPlaces[i + 1]);
            due("count(1), '" + text + "'", x.count(1), 2);
            due("count(5), '" + text + "'", x.count(5), 0);
        }
    }

    private static void tapeAtMost() {
        says("A TEXT is read from THE TAPE (bytes, at most 120).");
        SumsCopied x = new SumsCopied();
        String longest = "limit 7" + " ".repeat(105) + ";limit 8";
        due("text(), 120 bytes", read(x, longest), 2);
        due("limit(1)", x.limit(1), 8);
        for (int i = 1; i <= 120; i++) {
            due("feed(0, 1)", x.feed(0, 1), i);
        }
        due("feed(0, 1), the 121st", x.feed(0, 1), FULL);
        due("count(5)", x.count(5), 120);
        due("wipe()", x.wipe(), 120);
        for (int i = 1; i <= 29; i++) {
            x.feed(0, 4);
        }
        due("feed(0, 1)", x.feed(0, 1), 117);
        due("feed(0, 4), one too many", x.feed(0, 4), FULL);
        due("feed(0, 3), just so", x.feed(0, 3), 120);
        x.wipe();
        // The last byte of all begins the FAULT, or there is none and it ends too early.
        due("text(), the 120th byte", read(x, " ".repeat(119) + "#"), -1 - 119);
        due("text(), 120 blanks", read(x, " ".repeat(120)), -1 - 120);
    }

    private static void tokensAsLongAsCanBe() {
        says("TOKENS, each as long as can be");
        faults("slyknows 3", 0, "slysly", 0, "limit 12", 6, "right 12", 6, "child knows 1from", 17, "childfrom 0", 0,
            "child knows 2555", 12, "limitlimit 1", 0);
        SumsCopied x = told("child knows 25;child knows 2 from 0");
        due("of(0, 1), 25, not 2", x.of(0, 1), 25);
    }

    private static void words() {
        says("WORDS (letters a to z)");
        faults("Child", 0, "chilD", 0, "child`", 5, "child{", 5, "childa", 0, "lazyz", 0, "chi1d", 0, "child_", 5,
            "xseller", 0, "biscuitsx", 0, "child xbiscuits 1", 6, "child biscuitsbiscuits 1", 6, "aaaachild", 0,
            "zzzzzzzzzzzzlimit 1", 0);
    }

    private static void numbers() {
        says("NUMBERS (digits, 999 at most)");
        SumsCopied x = told("child biscuits 999;child biscuits 0;child biscuits 000000000999");
        due("of(0, 4)", x.of(0, 4), 999);
        due("of(1, 4)", x.of(1, 4), 0);
        due("of(2, 4)", x.of(2, 4), 999);
        faults("child biscuits 1000", 15, "child biscuits 9999", 15, "limit 1/", 7, "limit 1:", 7, "limit -1", 6,
            "limit +1", 6, "limit 4294967297", 6, "limit 18446744073709551617", 6, "right 4294967296 1", 6,
            "limit 1000000000000000000000000000000000000000000000000000000000000001", 6);
    }

    private static void blanks() {
        says("blanks may stand between");
        SumsCopied x = told("   child   knows   3   biscuits   7   ");
        due("of(0, 1)", x.of(0, 1), 3);
        due("of(0, 4)", x.of(0, 4), 7);
        SumsCopied y = told("child;sly knows3from0biscuits7;right7 9;limit3");
        due("of(1, 2), none between", y.of(1, 2), 0);
        due("of(1, 4)", y.of(1, 4), 7);
        due("isRight(7)", y.isRight(7), 9);
        due("limit(1)", y.limit(1), 3);
        faults("chi ld", 0, "limit 1 2", 8, "child knows 1 2", 14, "right 1 2 3", 10, "child\t", 5, "child\n", 5,
            "child\0", 5, "\rchild", 0, "child\u00a0", 5, "child\u001f", 5, "child!", 5);
    }

    private static void itemsAndSigns() {
        says("TEXT: ITEM { ; ITEM }.");
        due("text(), one", read(new SumsCopied(), "child"), 1);
        due("text(), two", read(new SumsCopied(), "child;child"), 2);
        due("text(), many", read(new SumsCopied(), "limit 1;".repeat(14) + "limit 1"), 15);
        faults(";", 0, ";child", 0, "child;", 6, "child;;child", 6, "child child", 6, "limit 1 limit 2", 8,
            "right 1 2 child", 10, "child ; ;", 8, "child<child", 5);
    }

    private static void knowsInText() {
        says("perhaps knows and a NUMBER (a set, 0 to 255)");
        SumsCopied x = told("child;child knows 0;child knows 255");
        due("of(0, 1), not told", x.of(0, 1), 0);
        due("of(1, 1)", x.of(1, 1), 0);
        due("of(2, 1)", x.of(2, 1), 255);
        faults("child knows 256", 12, "child knows 999", 12, "child knows", 11, "child knows ;", 12, "child knows x", 12);
    }

    private static void fromInText() {
        says("perhaps from and a NUMBER (a CHILD who is there already)");
        SumsCopied x = told("child;child from 0;child from 1;child from 0", "child from 3");
        int[] want = {-1, 0, 1, 0, 3};
        for (int c = 0; c < 5; c++) {
            due("of(" + c + ", 2)", x.of(c, 2), want[c]);
        }
        faults("child from 2", 11, "child;child from 3", 17, "child from 3;child", 11, "child from 255", 11,
            "child from", 10, "child from -1", 11);
        due("text(), nobody there", read(new SumsCopied(), "child from 0"), -1 - 11);
        due("text(), itself", read(new SumsCopied(), "child;child from 1"), -1 - 17);
    }

    private static void biscuitsInText() {
        says("perhaps biscuits and a NUMBER (0 to 999): a new one");
        SumsCopied x = told("child;child biscuits 0;child biscuits 999");
        int[] want = {5, 0, 999};
        for (int c = 0; c < 3; c++) {
            due("of(" + c + ", 4)", x.of(c, 4), want[c]);
        }
        faults("child biscuits 1000", 15, "child biscuits", 14, "child biscuits;", 14, "child biscuit 1", 6);
    }

    private static void perhapsInOrder() {
        says("perhaps knows and a NUMBER (a set, 0 to 255), perhaps from and a NUMBER (a CHILD who is there already),"
            + " perhaps biscuits and a NUMBER (0 to 999)");
        for (int which = 0; which < 8; which++) {
            String text = "seven" + ((which & 1) != 0 ? " knows 9" : "") + ((which & 2) != 0 ? " from 0" : "")
                + ((which & 4) != 0 ? " biscuits 8" : "");
            SumsCopied x = told("child", text);
            due("of(1, 0), " + text, x.of(1, 0), 3);
            due("of(1, 1), " + text, x.of(1, 1), (which & 1) != 0 ? 9 : 0);
            due("of(1, 2), " + text, x.of(1, 2), (which & 2) != 0 ? 0 : -1);
            due("of(1, 4), " + text, x.of(1, 4), (which & 4) != 0 ? 8 : 5);
        }
        faults("child from 0 knows 1", 13, "child biscuits 1 knows 1", 17, "child biscuits 1 from 0", 17,
            "child knows 1 knows 1", 14, "child from 0 from 0", 13, "child biscuits 1 biscuits 1", 17,
            "limit 1 knows 1", 8, "right 1 1 from 0", 10);
    }

    private static void rightInText() {
        says("right, two NUMBERS (a SUM, 0 to 99)");
        SumsCopied x = told("right 0 0;right 7 99;right 3 5;right 3 6");
        due("isRight(0)", x.isRight(0), 0);
        due("isRight(7)", x.isRight(7), 99);
        due("isRight(3), the later one", x.isRight(3), 6);
        due("count(1)", x.count(1), 0);
        faults("right 8 0", 6, "right 0 100", 8, "right 0", 7, "right", 5, "right 0;0", 7, "right child", 6);
    }

    private static void limitInText() {
        says("limit, a NUMBER (1 to 9)");
        SumsCopied x = told("limit 9");
        due("limit(2)", x.limit(2), 9);
        due("text()", read(x, "limit 1"), 1);
        due("limit(2)", x.limit(2), 1);
        faults("limit 0", 6, "limit 10", 6, "limit", 5, "limit;", 5, "limit limit", 6);
    }

    private static void faultOfOtherTokens() {
        says("FAULT: the place (from 0) of the first byte of the first TOKEN that can't stand there (a NUMBER that isn't as"
            + " told, another WORD, a byte that begins no TOKEN");
        faults("7", 0, "  7", 2, "child;  300", 8, "mistress", 0, "knows 1", 0, "from 0", 0, "biscuits 1", 0,
            "child ; teacher", 8, "#", 0, "child #", 6, "\u00e9", 0, "child \u00ff", 6, "child knows \u0080", 12,
            "limit 10;#", 6, "limit 9 ;#", 9);
    }

    private static void faultOfNinth() {
        says("the WORD of a 9th CHILD: its own");
        String eight = "sly;sly;sly;sly;sly;sly;sly;sly";
        due("text(), nine", read(new SumsCopied(), eight + " ; sly"), -1 - 34);
        SumsCopied x = told(eight);
        due("text()", read(x, "lazy"), -1);
        due("text(), its own, not that of its NUMBER", read(x, "limit 3; lazy knows 256"), -1 - 9);
        due("text(), an earlier one", read(x, "limit 0; lazy"), -1 - 6);
        due("limit(2), nothing changed", x.limit(2), 2);
        due("count(1)", x.count(1), 8);
        due("text(), none new", read(x, "limit 3;right 0 0"), 2);
        SumsCopied y = told("sly;sly;sly;sly;sly;sly;sly");
        due("text(), two more than seven", read(y, "sly;sly"), -1 - 4);
        due("count(1)", y.count(1), 7);
        due("text(), the 8th", read(y, "sly"), 1);
    }

    private static void faultAtTheEnd() {
        says("or how many bytes there are if it ends too early");
        faults("", 0, " ", 1, "     ", 5, "child;", 6, "child;  ", 8, "child knows", 11, "child knows  ", 13,
            "right", 5, "right 1", 7, "right 1 ", 8, "limit", 5, "limit ", 6, "child from", 10, "sly biscuits   ", 15);
    }

    // ---- spots, sheets

    private static void spots() {
        says("SPOTS 0 to 9 hold a CHILD or nothing (at first).");
        SumsCopied x = told("child;child");
        due("hold(-1, 0)", x.hold(-1, 0), BEYOND);
        due("hold(10, 0)", x.hold(10, 0), BEYOND);
        due("as(-1, 0)", x.as(-1, 0), BEYOND);
        due("as(10, 0)", x.as(10, 0), BEYOND);
        for (int spot = 0; spot < 10; spot++) {
            due("as(" + spot + ", 0), at first", x.as(spot, 0), MISSING);
            due("count(7)", x.count(7), spot);
            due("hold(" + spot + ", 1)", x.hold(spot, 1), 1);
            due("as(" + spot + ", 0)", x.as(spot, 0), 1);
        }
        due("count(7)", x.count(7), 10);
    }

    private static void sheets() {
        says("SHEETS 0 to 3: rows of at most 40 numbers of 8, 16 or 32 bits, or MISSING (at first).");
        SumsCopied x = new SumsCopied();
        due("load(-1)", x.load(-1), BEYOND);
        due("load(4)", x.load(4), BEYOND);
        int[] bits = {8, 16, 32};
        for (int s = 0; s < 4; s++) {
            due("load(" + s + "), at first", x.load(s), MISSING);
            for (int b : bits) {
                due("sheet(" + s + ", " + b + ", 40)", x.sheet(s, b, 40), 40);
                due("sheet(" + s + ", " + b + ", 41)", x.sheet(s, b, 41), BEYOND);
                due("write(" + s + ", 39, 1)", x.write(s, 39, 1), 1);
                due("write(" + s + ", 40, 1)", x.write(s, 40, 1), BEYOND);
            }
            for (int b = -8; b <= 64; b++) {
                if (b != 0 && b != 8 && b != 16 && b != 32) {
                    due("sheet(" + s + ", " + b + ", 1)", x.sheet(s, b, 1), BEYOND);
                }
            }
        }
    }
}
