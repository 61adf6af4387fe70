/** Rows worked out by hand from the document, promise by promise. */
public final class PromisesTest {
    private static final int BEYOND = -1000001;
    private static final int FULL = -1000002;
    private static final int KIND = -1000003;
    private static final int NONE = -1000004;
    private static final int STATE = -1000005;
    private static final int MISSING = -1000006;
    private static final int SIZE = -1000007;

    private static int rows = 0;
    private static int wrong = 0;

    private static void due(int promise, String call, long got, long want) {
        rows++;
        if (got != want) {
            wrong++;
            System.out.println("promise " + promise + ": " + call + " answered " + got + ", due is " + want);
        }
    }

    /** 0 CHILD who KNOWS all; 1 and 2 SLOPPY who know nothing and copy from 0. */
    private static SumsCopied copiers() {
        SumsCopied x = new SumsCopied();
        x.child(0, 255);
        x.child(2, 0);
        x.child(2, 0);
        x.change(1, 2, 0);
        x.change(2, 2, 0);
        return x;
    }

    private static SumsCopied oneOfEachKind() {
        SumsCopied x = new SumsCopied();
        for (int kind = 0; kind <= 6; kind++) {
            x.child(kind, 0);
        }
        return x;
    }

    private static int read(SumsCopied x, String text) {
        feedAll(x, text);
        return x.text();
    }

    private static void feedAll(SumsCopied x, String text) {
        for (int i = 0; i < text.length(); i++) {
            x.feed(text.charAt(i), 1);
        }
    }

    private static void fill(SumsCopied x, int s, int bits, int... numbers) {
        x.sheet(s, bits, numbers.length);
        for (int i = 0; i < numbers.length; i++) {
            x.write(s, i, numbers[i]);
        }
    }

    public static void main(String[] args) {
        newObject();
        sums();
        children();
        changes();
        answersAndSlips();
        alikes();
        days();
        dayEdges();
        lastDay();
        seen();
        chains();
        aheads();
        advice();
        moreAdvice();
        forbids();
        guesses();
        seatings();
        oddsOf();
        tapes();
        texts();
        faults();
        spots();
        sheets();
        copies();
        loadsAndJudges();
        images();
        counts();
        statuses();
        System.out.println(rows + " rows, " + wrong + " wrong");
        if (wrong != 0) {
            System.exit(1);
        }
    }

    private static void newObject() {
        SumsCopied x = new SumsCopied();
        int[] first = {14, 25, 36, 47, 58, 69, 80, 91};
        for (int s = 0; s < 8; s++) {
            due(1, "isRight(" + s + ")", x.isRight(s), first[s]);
        }
        int[] counts = {0, 0, 0, 0, 0, 0, 1, 0};
        for (int what = 0; what < 8; what++) {
            due(1, "count(" + what + ")", x.count(what), counts[what]);
        }
        due(1, "status(-1)", x.status(-1), 0);
        due(1, "limit(2)", x.limit(2), 2);
        due(1, "undo()", x.undo(), NONE);
        due(1, "tear()", x.tear(), 0);
        due(1, "wipe()", x.wipe(), 0);
        for (int s = 0; s < 4; s++) {
            due(1, "load(" + s + ")", x.load(s), MISSING);
        }
        for (int spot = 0; spot < 10; spot++) {
            due(1, "as(" + spot + ", 0)", x.as(spot, 0), MISSING);
        }
    }

    private static void sums() {
        SumsCopied x = new SumsCopied();
        due(2, "right(3, 5)", x.right(3, 5), 47);
        due(2, "right(3, 99)", x.right(3, 99), 5);
        due(2, "right(0, 0)", x.right(0, 0), 14);
        due(2, "right(7, 1)", x.right(7, 1), 91);
        due(2, "right(-1, 0)", x.right(-1, 0), BEYOND);
        due(2, "right(8, 0)", x.right(8, 0), BEYOND);
        due(2, "right(0, -1)", x.right(0, -1), BEYOND);
        due(2, "right(0, 100)", x.right(0, 100), BEYOND);
        due(3, "isRight(0)", x.isRight(0), 0);
        due(3, "isRight(3)", x.isRight(3), 99);
        due(3, "isRight(7)", x.isRight(7), 1);
        due(3, "isRight(-1)", x.isRight(-1), BEYOND);
        due(3, "isRight(8)", x.isRight(8), BEYOND);
        due(4, "limit(9)", x.limit(9), 2);
        due(4, "limit(1)", x.limit(1), 9);
        due(4, "limit(0)", x.limit(0), BEYOND);
        due(4, "limit(10)", x.limit(10), BEYOND);
        due(4, "limit(3)", x.limit(3), 1);
        due(2, "status(0)", x.status(0), 8);
    }

    private static void children() {
        SumsCopied x = new SumsCopied();
        due(5, "child(-1, 0)", x.child(-1, 0), BEYOND);
        due(5, "child(7, 0)", x.child(7, 0), BEYOND);
        due(5, "child(0, -1)", x.child(0, -1), BEYOND);
        due(5, "child(0, 256)", x.child(0, 256), BEYOND);
        due(5, "count(1)", x.count(1), 0);
        for (int kind = 0; kind <= 6; kind++) {
            due(5, "child(" + kind + ", ..)", x.child(kind, 10 * kind), kind);
        }
        due(5, "child(0, 255)", x.child(0, 255), 7);
        due(5, "child(0, 0)", x.child(0, 0), FULL);
        due(5, "child(7, 0), none free", x.child(7, 0), BEYOND);
        due(5, "child(0, 256), none free", x.child(0, 256), BEYOND);
        due(5, "count(1)", x.count(1), 8);
        int[] pays = {1, 1, 2, 2, 2, 0, 0};
        int[] lends = {1, 1, 1, 1, 1, 0, 1};
        for (int c = 0; c < 7; c++) {
            int[] facts = {c, 10 * c, -1, 0, 5, 0, pays[c], lends[c], 0};
            for (int what = 0; what < 9; what++) {
                due(6, "of(" + c + ", " + what + ")", x.of(c, what), facts[what]);
            }
        }
        due(6, "of(-1, 0)", x.of(-1, 0), BEYOND);
        due(6, "of(8, 0)", x.of(8, 0), BEYOND);
        due(6, "of(0, -1)", x.of(0, -1), BEYOND);
        due(6, "of(0, 9)", x.of(0, 9), BEYOND);
        x.change(6, 4, 19);
        due(6, "of(6, 7), 19 biscuits", x.of(6, 7), 1);
        x.change(6, 4, 20);
        due(6, "of(6, 7), 20 biscuits", x.of(6, 7), 0);
        x.go(1);
        due(6, "of(4, 7), DAY odd", x.of(4, 7), 0);
        due(6, "of(1, 8)", x.of(1, 8), 10);
        due(6, "of(7, 8)", x.of(7, 8), 255);
        x.go(1);
        due(6, "of(4, 7), DAY even", x.of(4, 7), 1);
    }

    private static void changes() {
        SumsCopied x = new SumsCopied();
        x.child(1, 3);
        x.child(0, 0);
        int[] was = {1, 3, -1, 0, 5, 0};
        int[] most = {6, 255, 1, 9999, 999, 9999};
        int[] least = {0, 0, -1, 0, 0, 0};
        for (int what = 0; what < 6; what++) {
            due(7, "change(0, " + what + ", most)", x.change(0, what, most[what]), was[what]);
            due(7, "change(0, " + what + ", too much)", x.change(0, what, most[what] + 1), BEYOND);
            due(7, "change(0, " + what + ", too little)", x.change(0, what, least[what] - 1), BEYOND);
            due(7, "of(0, " + what + ")", x.of(0, what), most[what]);
            due(7, "change(0, " + what + ", least)", x.change(0, what, least[what]), most[what]);
            due(7, "of(0, " + what + ")", x.of(0, what), least[what]);
        }
        due(7, "change(0, 2, 0), itself", x.change(0, 2, 0), BEYOND);
        due(7, "change(1, 2, 1), itself", x.change(1, 2, 1), BEYOND);
        due(7, "change(1, 2, 0)", x.change(1, 2, 0), -1);
        due(7, "change(2, 0, 0)", x.change(2, 0, 0), BEYOND);
        due(7, "change(-1, 0, 0)", x.change(-1, 0, 0), BEYOND);
        due(7, "change(0, 6, 0)", x.change(0, 6, 0), BEYOND);
        due(7, "change(0, -1, 0)", x.change(0, -1, 0), BEYOND);
    }

    private static void answersAndSlips() {
        SumsCopied x = copiers();
        due(8, "answer(0, 0), at first", x.answer(0, 0), -1);
        x.go(1);
        int[] known = {14, 25, 36, 47, 58, 69, 80, 91};
        int[] copied = {14, 52, 36, 74, 58, 96, 80, 19};
        for (int s = 0; s < 8; s++) {
            due(8, "answer(0, " + s + ")", x.answer(0, s), known[s]);
            due(8, "answer(2, " + s + ")", x.answer(2, s), copied[s]);
        }
        due(8, "answer(3, 0)", x.answer(3, 0), BEYOND);
        due(8, "answer(-1, 0)", x.answer(-1, 0), BEYOND);
        due(8, "answer(0, 8)", x.answer(0, 8), BEYOND);
        due(8, "answer(0, -1)", x.answer(0, -1), BEYOND);

        SumsCopied y = oneOfEachKind();
        int[] sums = {0, 1, 1, 2, 2, 4, 3, 7};
        int[] as = {17, 17, 5, 77, 7, 41, 70, 99};
        int[][] want = {
            {17, 17, 5, 77, 7, 41, 70, 99},
            {-1, 17, 5, 77, 7, -1, 70, 99},
            {17, 71, 50, 77, 7, 41, 7, 99},
            {11, 11, 50, 11, 1, 41, 1, 99},
            {11, 11, 50, 11, 1, 41, 1, 99},
            {-1, -1, -1, -1, -1, -1, -1, -1},
            {-1, 17, 5, 77, 7, -1, 70, 99},
        };
        for (int c = 0; c < 7; c++) {
            for (int i = 0; i < 8; i++) {
                String call = "slips(" + c + ", " + sums[i] + ", " + as[i] + ")";
                due(9, call, y.slips(c, sums[i], as[i]), want[c][i]);
                due(9, "slips(" + c + ", .., -1)", y.slips(c, sums[i], -1), -1);
            }
        }
        due(9, "slips(7, 0, 0)", y.slips(7, 0, 0), BEYOND);
        due(9, "slips(-1, 0, 0)", y.slips(-1, 0, 0), BEYOND);
        due(9, "slips(0, 8, 0)", y.slips(0, 8, 0), BEYOND);
        due(9, "slips(0, -1, 0)", y.slips(0, -1, 0), BEYOND);
        due(9, "slips(0, 0, 100)", y.slips(0, 0, 100), BEYOND);
        due(9, "slips(0, 0, -2)", y.slips(0, 0, -2), BEYOND);
        y.go(1);
        due(9, "slips(4, 1, 17), DAY odd", y.slips(4, 1, 17), -1);
        due(9, "slips(3, 1, 17), DAY odd", y.slips(3, 1, 17), 11);
    }

    private static void alikes() {
        SumsCopied x = copiers();
        due(10, "alike(1, 2), no answers", x.alike(1, 2), 0);
        x.go(1);
        due(10, "alike(1, 2)", x.alike(1, 2), 255);
        due(10, "alike(0, 1)", x.alike(0, 1), 85);
        due(10, "alike(1, 0)", x.alike(1, 0), 85);
        x.right(0, 14);
        due(10, "alike(1, 2), one is right", x.alike(1, 2), 254);
        due(10, "alike(0, 1), one is right", x.alike(0, 1), 84);
        due(10, "alike(1, 1)", x.alike(1, 1), BEYOND);
        due(10, "alike(3, 1)", x.alike(3, 1), BEYOND);
        due(10, "alike(1, 3)", x.alike(1, 3), BEYOND);
        due(10, "alike(-1, 1)", x.alike(-1, 1), BEYOND);
        due(10, "alike(1, -1)", x.alike(1, -1), BEYOND);
    }

    private static void days() {
        SumsCopied x = copiers();
        due(11, "go(0)", x.go(0), BEYOND);
        due(11, "go(61)", x.go(61), BEYOND);
        due(11, "go(1)", x.go(1), 8);
        int[] right = {43, 77, 11, 45, 79, 13, 47, 81};
        for (int s = 0; s < 8; s++) {
            due(11, "isRight(" + s + ")", x.isRight(s), right[s]);
        }
        int[] facts0 = {0, 255, -1, 8, 9, 0};
        int[] facts1 = {2, 1, 0, 0, 3, 1};
        for (int what = 0; what < 6; what++) {
            due(11, "of(0, " + what + ")", x.of(0, what), facts0[what]);
            due(11, "of(1, " + what + ")", x.of(1, what), facts1[what]);
            due(11, "of(2, " + what + ")", x.of(2, what), facts1[what]);
        }
        // DAY 1: 77 stays 77, so three are alike; they know SUM 1, too.
        due(11, "go(1)", x.go(1), 16);
        due(11, "of(1, 1)", x.of(1, 1), 3);
        due(11, "of(1, 5)", x.of(1, 5), 2);
        due(11, "of(1, 4)", x.of(1, 4), 1);
        due(11, "of(0, 4)", x.of(0, 4), 13);
        // DAY 2: one BISCUIT is too few for who PAYS two.
        due(11, "go(1)", x.go(1), 28);
        due(11, "of(1, 4)", x.of(1, 4), 1);
        due(11, "of(1, 8)", x.of(1, 8), 3);
        due(11, "go(3) at once", copiers().go(3), 28);
        due(11, "go(60), nobody", new SumsCopied().go(60), 0);
    }

    private static void dayEdges() {
        // From a greater number comes the ANSWER of the day ahead; who KNOWS all PAYS all the same.
        SumsCopied x = new SumsCopied();
        x.child(0, 0);
        x.child(0, 255);
        x.change(0, 2, 1);
        x.change(1, 2, 0);
        x.go(1);
        due(11, "answer(0, 0)", x.answer(0, 0), -1);
        due(11, "of(0, 4), paid and was paid", x.of(0, 4), 5);
        due(11, "of(1, 4)", x.of(1, 4), 5);
        x.go(1);
        due(11, "answer(0, 0), of the day ahead", x.answer(0, 0), 14);
        due(11, "answer(1, 0)", x.answer(1, 0), 43);

        // 999 BISCUITS at most, 9999 MARKS and CAUGHT at most.
        SumsCopied y = copiers();
        y.change(0, 4, 998);
        y.change(0, 3, 9995);
        y.change(1, 5, 9999);
        y.go(1);
        due(11, "of(0, 4)", y.of(0, 4), 999);
        due(11, "of(0, 3)", y.of(0, 3), 9999);
        due(11, "of(1, 5)", y.of(1, 5), 9999);
        due(11, "of(1, 1), caught all the same", y.of(1, 1), 1);

        // A SELLER has 19, is paid once, and lends no more on the same DAY.
        SumsCopied z = new SumsCopied();
        z.child(6, 255);
        z.child(0, 0);
        z.child(0, 0);
        z.change(0, 4, 19);
        z.change(1, 2, 0);
        z.change(2, 2, 0);
        due(11, "go(1), seller", z.go(1), 16);
        due(11, "of(1, 8)", z.of(1, 8), 255);
        due(11, "of(2, 8)", z.of(2, 8), 0);
        due(11, "of(2, 4)", z.of(2, 4), 5);

        // LIMIT itself is enough, one less is not; DAY modulo 8 is what is learned.
        SumsCopied w = copiers();
        w.limit(4);
        w.go(1);
        due(11, "now(2), LIMIT 4", w.now(2), 2);
        w = copiers();
        w.limit(5);
        w.go(1);
        due(11, "now(2), LIMIT 5", w.now(2), 0);
        due(11, "now(1), LIMIT 5", w.now(1), 16);
        w = copiers();
        w.change(1, 2, -1);
        w.go(9);
        w.change(1, 2, 0);
        w.change(1, 4, 50);
        w.change(2, 4, 50);
        w.go(1);
        due(11, "of(1, 1), DAY 9", w.of(1, 1), 2);
    }

    /** Past the 512 calls that are promised, for there is no shorter way to the last DAY. */
    private static void lastDay() {
        SumsCopied x = new SumsCopied();
        x.child(4, 255);
        for (int i = 0; i < 1666; i++) {
            x.go(60);
        }
        due(11, "go(40), DAY 99960", x.go(40), STATE);
        x.image();
        due(11, "go(39), DAY 99960", x.go(39), 9999);
        due(42, "undo()", x.undo(), 99960);
        due(28, "seats(20), DAY 99960", x.seats(20), 9999);
        due(11, "go(9)", x.go(9), 9999);
        due(28, "seats(11), DAY 99989", x.seats(11), STATE);
        due(28, "seats(10), DAY 99989", x.seats(10), 9999);
        due(11, "now(0)", x.now(0), 99999);
        due(11, "go(1), last", x.go(1), STATE);
        due(11, "go(61), last", x.go(61), BEYOND);
        due(28, "seats(1), last", x.seats(1), STATE);
        due(14, "ahead(0, 3, 60), last", x.ahead(0, 3, 60), 9999);
        due(45, "status(4)", x.status(4), 4);
    }

    private static void seen() {
        SumsCopied x = copiers();
        due(12, "now(4)", x.now(4), 1);
        due(12, "now(5), all none", x.now(5), 7);
        due(12, "now(6)", x.now(6), 0);
        x.change(0, 1, 7);
        x.change(1, 1, 128);
        due(12, "now(6)", x.now(6), 120);
        x.change(0, 1, 255);
        x.change(1, 1, 0);
        x.go(2);
        x.change(1, 3, 16);
        x.change(0, 2, 2);
        due(12, "now(0)", x.now(0), 2);
        due(12, "now(1)", x.now(1), 32);
        due(12, "now(2)", x.now(2), 4);
        due(12, "now(3)", x.now(3), 15);
        due(12, "now(4)", x.now(4), 5);
        due(12, "now(5)", x.now(5), 3);
        due(12, "now(-1)", x.now(-1), BEYOND);
        due(12, "now(7)", x.now(7), BEYOND);
        SumsCopied none = new SumsCopied();
        int[] want = {0, 0, 0, 0, 0, 0, 255};
        for (int what = 0; what < 7; what++) {
            due(12, "now(" + what + "), nobody", none.now(what), want[what]);
        }
    }

    private static void chains() {
        SumsCopied x = new SumsCopied();
        for (int c = 0; c < 8; c++) {
            x.child(c % 7, 0);
            x.change(c, 2, c - 1);
        }
        for (int c = 0; c < 8; c++) {
            due(13, "chain(" + c + ")", x.chain(c), c);
        }
        x.change(0, 2, 1);
        due(13, "chain(0), round", x.chain(0), 8);
        due(13, "chain(7), into a round", x.chain(7), 8);
        due(13, "chain(8)", x.chain(8), BEYOND);
        due(13, "chain(-1)", x.chain(-1), BEYOND);
    }

    private static void aheads() {
        SumsCopied x = copiers();
        due(14, "ahead(0, 3, 0)", x.ahead(0, 3, 0), 0);
        due(14, "ahead(0, 3, 1)", x.ahead(0, 3, 1), 8);
        due(14, "ahead(0, 3, 60)", x.ahead(0, 3, 60), 480);
        due(14, "ahead(1, 1, 2)", x.ahead(1, 1, 2), 3);
        due(14, "ahead(1, 4, 2)", x.ahead(1, 4, 2), 1);
        due(14, "ahead(1, 5, 2)", x.ahead(1, 5, 2), 2);
        due(14, "ahead(1, 0, 2)", x.ahead(1, 0, 2), BEYOND);
        due(14, "ahead(1, 2, 2)", x.ahead(1, 2, 2), BEYOND);
        due(14, "ahead(1, 6, 2)", x.ahead(1, 6, 2), BEYOND);
        due(14, "ahead(1, -1, 2)", x.ahead(1, -1, 2), BEYOND);
        due(14, "ahead(3, 3, 2)", x.ahead(3, 3, 2), BEYOND);
        due(14, "ahead(1, 3, -1)", x.ahead(1, 3, -1), BEYOND);
        due(14, "ahead(1, 3, 61)", x.ahead(1, 3, 61), BEYOND);
        due(15, "writes(1, 1, 0)", x.writes(1, 1, 0), -1);
        due(15, "writes(1, 1, 1)", x.writes(1, 1, 1), 52);
        due(15, "writes(0, 0, 1)", x.writes(0, 0, 1), 14);
        due(15, "writes(1, 7, 1)", x.writes(1, 7, 1), 19);
        due(15, "writes(1, 1, 3)", x.writes(1, 1, 3), 33);
        due(15, "writes(1, 3, 3)", x.writes(1, 3, 3), -1);
        due(15, "writes(3, 1, 1)", x.writes(3, 1, 1), BEYOND);
        due(15, "writes(1, 8, 1)", x.writes(1, 8, 1), BEYOND);
        due(15, "writes(1, -1, 1)", x.writes(1, -1, 1), BEYOND);
        due(15, "writes(1, 1, -1)", x.writes(1, 1, -1), BEYOND);
        due(15, "writes(1, 1, 61)", x.writes(1, 1, 61), BEYOND);
        due(16, "caught(1)", x.caught(1), 1);
        due(16, "caught(0)", x.caught(0), NONE);
        due(16, "caught(3)", x.caught(3), BEYOND);
        due(16, "caught(-1)", x.caught(-1), BEYOND);
        x.change(1, 5, 9999);
        due(16, "caught(1), 9999", x.caught(1), NONE);
        x.change(1, 5, 0);
        due(17, "when(0, 0)", x.when(0, 0), 0);
        due(17, "when(0, 8)", x.when(0, 8), 1);
        due(17, "when(0, 9)", x.when(0, 9), 2);
        due(17, "when(1, 1)", x.when(1, 1), 3);
        due(17, "when(0, 480)", x.when(0, 480), 60);
        due(17, "when(0, 481)", x.when(0, 481), NONE);
        due(17, "when(0, 9999)", x.when(0, 9999), NONE);
        due(17, "when(0, -1)", x.when(0, -1), BEYOND);
        due(17, "when(0, 10000)", x.when(0, 10000), BEYOND);
        due(17, "when(3, 0)", x.when(3, 0), BEYOND);
        due(14, "nothing changed: now(0)", x.now(0), 0);
        due(14, "nothing changed: now(1)", x.now(1), 0);
        due(14, "nothing changed: of(1, 4)", x.of(1, 4), 5);
        due(15, "nothing changed: answer(1, 1)", x.answer(1, 1), -1);
        due(14, "nothing changed: isRight(1)", x.isRight(1), 25);
        x.limit(5);
        due(16, "caught(1), LIMIT 5", x.caught(1), NONE);
    }

    private static void advice() {
        SumsCopied x = new SumsCopied();
        x.child(0, 255);
        due(18, "copyFrom(0, 5), alone", x.copyFrom(0, 5), -1);
        x.child(0, 0);
        x.child(0, 3);
        due(18, "copyFrom(1, 1)", x.copyFrom(1, 1), 0);
        due(18, "copyFrom(2, 1)", x.copyFrom(2, 1), 0);
        due(18, "copyFrom(0, 1), all as good", x.copyFrom(0, 1), 1);
        due(18, "copyFrom(1, 0), all as good", x.copyFrom(1, 0), 0);
        due(18, "of(1, 2)", x.of(1, 2), -1);
        x.change(0, 1, 1);
        x.change(2, 1, 15);
        x.go(1);
        x.change(1, 2, 0);
        x.right(0, 14);
        x.right(1, 25);
        due(18, "copyFrom(1, 1), the greater one's of the day ahead", x.copyFrom(1, 1), 2);
        due(18, "copyFrom(3, 1)", x.copyFrom(3, 1), BEYOND);
        due(18, "copyFrom(0, -1)", x.copyFrom(0, -1), BEYOND);
        due(18, "copyFrom(0, 21)", x.copyFrom(0, 21), BEYOND);

        // Who copies back what was copied from it is caught: nobody is better.
        SumsCopied y = new SumsCopied();
        y.child(0, 0);
        y.child(0, 255);
        y.change(0, 2, 1);
        y.go(1);
        y.change(1, 1, 1);
        due(18, "copyFrom(1, 1), nobody", y.copyFrom(1, 1), -1);
        due(18, "copyFrom(1, 0), nobody comes last", y.copyFrom(1, 0), 0);

        SumsCopied z = copiers();
        due(19, "kindFor(1, 1)", z.kindFor(1, 1), 0);
        z.change(1, 4, 0);
        due(19, "kindFor(1, 1), no biscuits", z.kindFor(1, 1), 6);
        due(19, "kindFor(1, 0)", z.kindFor(1, 0), 0);
        z.change(0, 0, 5);
        due(19, "kindFor(1, 1), nothing helps", z.kindFor(1, 1), 0);
        due(19, "of(1, 0)", z.of(1, 0), 2);
        due(19, "kindFor(3, 1)", z.kindFor(3, 1), BEYOND);
        due(19, "kindFor(1, -1)", z.kindFor(1, -1), BEYOND);
        due(19, "kindFor(1, 21)", z.kindFor(1, 21), BEYOND);
    }

    private static void moreAdvice() {
        SumsCopied x = new SumsCopied();
        x.child(0, 3);
        due(20, "learn(0, 1)", x.learn(0, 1), 2);
        due(20, "learn(0, 0)", x.learn(0, 0), 0);
        x.change(0, 1, 255);
        due(20, "learn(0, 20), knows all", x.learn(0, 20), 0);
        x.child(1, 0);
        x.change(1, 2, 0);
        due(20, "learn(1, 1), sly", x.learn(1, 1), 0);
        x.change(1, 1, 1);
        due(20, "learn(1, 1), sly", x.learn(1, 1), 4);
        due(20, "of(1, 1)", x.of(1, 1), 1);
        due(20, "learn(2, 1)", x.learn(2, 1), BEYOND);
        due(20, "learn(0, -1)", x.learn(0, -1), BEYOND);
        due(20, "learn(0, 21)", x.learn(0, 21), BEYOND);

        SumsCopied y = copiers();
        due(21, "limitFor(0)", y.limitFor(0), 1);
        due(21, "limitFor(1)", y.limitFor(1), 5);
        due(21, "limitFor(2)", y.limitFor(2), 5);
        due(21, "limitFor(-1)", y.limitFor(-1), BEYOND);
        due(21, "limitFor(21)", y.limitFor(21), BEYOND);
        y.limit(9);
        due(21, "limitFor(20)", y.limitFor(20), 5);
        y.change(1, 5, 9999);
        y.change(2, 5, 9999);
        due(21, "limitFor(20), CAUGHT can't be more", y.limitFor(20), 1);
        due(21, "limit(9)", y.limit(9), 9);

        SumsCopied z = copiers();
        z.change(1, 0, 0);
        z.change(2, 2, -1);
        due(23, "biscuitsFor(1, 3)", z.biscuitsFor(1, 3), 3);
        due(23, "biscuitsFor(1, 20)", z.biscuitsFor(1, 20), 20);
        due(23, "biscuitsFor(1, 0)", z.biscuitsFor(1, 0), 0);
        due(23, "biscuitsFor(0, 3)", z.biscuitsFor(0, 3), 0);
        z.change(1, 0, 2);
        due(23, "biscuitsFor(1, 3), sloppy", z.biscuitsFor(1, 3), 6);
        due(23, "of(1, 4)", z.of(1, 4), 5);
        due(23, "biscuitsFor(3, 3)", z.biscuitsFor(3, 3), BEYOND);
        due(23, "biscuitsFor(1, -1)", z.biscuitsFor(1, -1), BEYOND);
        due(23, "biscuitsFor(1, 21)", z.biscuitsFor(1, 21), BEYOND);
        // With 99 it is caught and has none; with 0 it has one for what it KNOWS, which is not as many.
        SumsCopied w = copiers();
        w.change(1, 1, 1);
        due(23, "biscuitsFor(1, 1), caught", w.biscuitsFor(1, 1), 2);
    }

    private static void forbids() {
        SumsCopied x = copiers();
        due(22, "forbid(0)", x.forbid(0), 0);
        due(22, "forbid(1)", x.forbid(1), 1);
        due(22, "forbid(12)", x.forbid(12), 1);
        due(22, "of(1, 2)", x.of(1, 2), 0);
        due(22, "forbid(-1)", x.forbid(-1), BEYOND);
        due(22, "forbid(13)", x.forbid(13), BEYOND);
        x.limit(9);
        due(22, "forbid(12), LIMIT 9", x.forbid(12), 0);

        // Either would do: the least.
        SumsCopied y = new SumsCopied();
        y.child(0, 255);
        y.child(0, 255);
        y.child(2, 0);
        y.child(2, 0);
        y.change(2, 2, 0);
        y.change(3, 2, 1);
        due(22, "forbid(1), either", y.forbid(1), 1);
        y.child(2, 0);
        y.child(2, 0);
        y.change(4, 2, 0);
        y.change(5, 2, 1);
        due(22, "forbid(1), both", y.forbid(1), 3);

        // One great number is fewer than two small ones.
        SumsCopied z = new SumsCopied();
        z.child(0, 255);
        z.child(0, 255);
        z.child(0, 255);
        z.child(2, 0);
        z.child(2, 10);
        z.child(2, 160);
        z.change(3, 2, 2);
        z.change(4, 2, 0);
        z.change(5, 2, 1);
        due(22, "forbid(1), one for two", z.forbid(1), 4);
    }

    private static void guesses() {
        SumsCopied x = copiers();
        x.change(2, 0, 0);
        x.change(2, 2, -1);
        fill(x, 0, 8, 14, 52);
        due(24, "sources(0, 2)", x.sources(0, 2), 2);
        fill(x, 0, 16, 14, 25);
        due(24, "sources(0, 2)", x.sources(0, 2), 1);
        fill(x, 0, 32, -2, -2, -2, -2, -2, -2, -2, -2, 77);
        due(24, "sources(0, 2), any", x.sources(0, 2), 3);
        fill(x, 0, 8);
        due(24, "sources(0, 2), nothing asked", x.sources(0, 2), 3);
        fill(x, 0, 8, -2, -2, -2, -2, -2, -2, -2, -1);
        due(24, "sources(0, 1)", x.sources(0, 1), 4);
        fill(x, 0, 8, -2, -2, -2, -2, -2, -2, -2, 7);
        due(24, "sources(0, 1)", x.sources(0, 1), 0);
        due(24, "of(1, 2)", x.of(1, 2), 0);

        fill(x, 1, 8, -2, 25);
        due(25, "fits(1, 1), must know", x.fits(1, 1), 128);
        due(26, "knew(1, 1)", x.knew(1, 1), 2);
        due(27, "kinds(1, 1)", x.kinds(1, 1), 1 + 2 + 64);
        fill(x, 1, 8, -2, 52);
        due(25, "fits(1, 1), must not know", x.fits(1, 1), 128);
        due(26, "knew(1, 1)", x.knew(1, 1), 0);
        due(27, "kinds(1, 1)", x.kinds(1, 1), 4 + 8 + 16);
        fill(x, 1, 8, 14, -2, -2, 74, -2, -2, -2, 91, 1);
        due(25, "fits(1, 1)", x.fits(1, 1), 64);
        due(26, "knew(1, 1)", x.knew(1, 1), 128);
        fill(x, 1, 8, -1);
        due(25, "fits(1, 1)", x.fits(1, 1), 0);
        due(26, "knew(1, 1)", x.knew(1, 1), NONE);
        due(27, "kinds(1, 1)", x.kinds(1, 1), 2 + 32 + 64);
        fill(x, 1, 8, -2, -2);
        due(25, "fits(1, 1), any", x.fits(1, 1), 256);
        due(27, "kinds(1, 1), any", x.kinds(1, 1), 127);
        fill(x, 1, 8, -3);
        due(25, "fits(1, 1), -3", x.fits(1, 1), 0);
        due(27, "kinds(1, 1), -3", x.kinds(1, 1), 0);
        due(25, "of(1, 1)", x.of(1, 1), 0);
        due(27, "of(1, 0)", x.of(1, 0), 2);
        due(25, "now(0)", x.now(0), 0);

        due(24, "sources(-1, 9)", x.sources(-1, 9), BEYOND);
        due(24, "sources(4, 0)", x.sources(4, 0), BEYOND);
        due(24, "sources(2, 9)", x.sources(2, 9), MISSING);
        due(24, "sources(1, 3)", x.sources(1, 3), BEYOND);
        due(24, "sources(1, -1)", x.sources(1, -1), BEYOND);
        due(25, "fits(4, 0)", x.fits(4, 0), BEYOND);
        due(25, "fits(2, 9)", x.fits(2, 9), MISSING);
        due(25, "fits(1, 3)", x.fits(1, 3), BEYOND);
        due(26, "knew(4, 0)", x.knew(4, 0), BEYOND);
        due(26, "knew(2, 9)", x.knew(2, 9), MISSING);
        due(26, "knew(1, 3)", x.knew(1, 3), BEYOND);
        due(27, "kinds(4, 0)", x.kinds(4, 0), BEYOND);
        due(27, "kinds(2, 9)", x.kinds(2, 9), MISSING);
        due(27, "kinds(1, 3)", x.kinds(1, 3), BEYOND);
        due(26, "status(5)", x.status(5), 4);
        due(26, "status(3)", x.status(3), 1);
    }

    private static void seatings() {
        SumsCopied x = new SumsCopied();
        for (int c = 0; c < 8; c++) {
            x.child(0, 0);
        }
        due(28, "seats(0)", x.seats(0), BEYOND);
        due(28, "seats(21)", x.seats(21), BEYOND);
        due(28, "count(6)", x.count(6), 1);
        // z becomes 1103527590, -1770082073, 662824084, -999580867: rests 6, 0, 4, 3.
        int[] rests = {6, 0, 4, 3};
        due(28, "seats(1)", x.seats(1), 0);
        due(28, "now(0)", x.now(0), 1);
        due(28, "of(first rest, 2)", x.of(rests[0], 2), rests[1]);
        due(28, "now(4)", x.now(4), 1 << rests[1]);
        due(28, "seats(1)", x.seats(1), 0);
        due(28, "now(0)", x.now(0), 2);
        due(28, "of(third rest, 2)", x.of(rests[2], 2), rests[3]);
        due(28, "count(6)", x.count(6), -999580867);
        due(28, "seats(20)", x.seats(20), 0);
        due(28, "now(0)", x.now(0), 22);
        due(28, "MARKS", marksOfSeats(), 24);

        int z22 = x.count(6);
        due(30, "seed(-5)", x.seed(-5), z22);
        due(30, "seed(1)", x.seed(1), -5);
        due(30, "count(6)", x.count(6), 1);
        due(30, "seed(-2147483648)", x.seed(-2147483648), 1);
        due(30, "count(6)", x.count(6), -2147483648);
        due(30, "status(-1)", x.status(-1), 2);
    }

    private static int marksOfSeats() {
        SumsCopied x = new SumsCopied();
        x.child(5, 255);
        return x.seats(3);
    }

    private static void oddsOf() {
        SumsCopied x = new SumsCopied();
        x.child(0, 7);
        x.child(0, 255);
        x.child(0, 127);
        x.child(0, 0);
        x.child(0, 129);
        x.child(0, 63);
        due(29, "odds(0, 2, 0)", x.odds(0, 2, 0), 9);
        due(29, "odds(0, 2, 1)", x.odds(0, 2, 1), 64);
        due(29, "odds(1, 20, 0)", x.odds(1, 20, 0), 1);
        due(29, "odds(1, 20, 1)", x.odds(1, 20, 1), 1);
        due(29, "odds(2, 20, 0)", x.odds(2, 20, 0), 79792266297612001L);
        due(29, "odds(2, 20, 1)", x.odds(2, 20, 1), 1152921504606846976L);
        due(29, "odds(3, 0, 0)", x.odds(3, 0, 0), 1);
        due(29, "odds(3, 0, 1)", x.odds(3, 0, 1), 1);
        due(29, "odds(3, 3, 0)", x.odds(3, 3, 0), 0);
        due(29, "odds(3, 3, 1)", x.odds(3, 3, 1), 1);
        due(29, "odds(4, 3, 0)", x.odds(4, 3, 0), 1);
        due(29, "odds(4, 3, 1)", x.odds(4, 3, 1), 64);
        due(29, "odds(5, 3, 0)", x.odds(5, 3, 0), 27);
        due(29, "odds(5, 3, 1)", x.odds(5, 3, 1), 64);
        due(29, "odds(6, 0, 0)", x.odds(6, 0, 0), BEYOND);
        due(29, "odds(-1, 0, 0)", x.odds(-1, 0, 0), BEYOND);
        due(29, "odds(0, -1, 0)", x.odds(0, -1, 0), BEYOND);
        due(29, "odds(0, 21, 0)", x.odds(0, 21, 0), BEYOND);
        due(29, "odds(0, 0, 2)", x.odds(0, 0, 2), BEYOND);
        due(29, "odds(0, 0, -1)", x.odds(0, 0, -1), BEYOND);
    }

    private static void tapes() {
        SumsCopied x = new SumsCopied();
        due(31, "feed(0, 0)", x.feed(0, 0), BEYOND);
        due(31, "feed(0, 5)", x.feed(0, 5), BEYOND);
        due(31, "feed(0, -1)", x.feed(0, -1), BEYOND);
        // "limit 3" by four, two and one byte, the highest first.
        due(31, "feed(limi, 4)", x.feed(0x6C696D69, 4), 4);
        due(31, "feed(..t , 2)", x.feed(0x7A7A7420, 2), 6);
        due(31, "feed(...3, 1)", x.feed(0x7A7A7A33, 1), 7);
        due(31, "count(5)", x.count(5), 7);
        due(33, "text()", x.text(), 1);
        due(33, "count(5)", x.count(5), 0);
        due(33, "limit(3)", x.limit(3), 3);
        for (int i = 1; i <= 39; i++) {
            due(31, "feed(.., 3)", x.feed(0x202020, 3), 3 * i);
        }
        due(31, "feed(.., 4), no place", x.feed(0, 4), FULL);
        due(31, "feed(.., 5), no place", x.feed(0, 5), BEYOND);
        due(31, "feed(.., 3), just so", x.feed(0x202020, 3), 120);
        due(31, "feed(.., 1), no place", x.feed(0, 1), FULL);
        due(32, "wipe()", x.wipe(), 120);
        due(32, "wipe()", x.wipe(), 0);
        due(32, "count(5)", x.count(5), 0);
    }

    private static void texts() {
        SumsCopied x = new SumsCopied();
        x.child(0, 255);
        due(33, "text()", read(x, "sly knows 5 from 0 biscuits 7;seven from 1;right 3 72; limit 9 ;lazy biscuits 999"), 5);
        int[][] want = {{0, 255, -1, 0, 5, 0}, {1, 5, 0, 0, 7, 0}, {3, 0, 1, 0, 5, 0}, {4, 0, -1, 0, 999, 0}};
        for (int c = 0; c < 4; c++) {
            for (int what = 0; what < 6; what++) {
                due(33, "of(" + c + ", " + what + ")", x.of(c, what), want[c][what]);
            }
        }
        due(33, "count(1)", x.count(1), 4);
        due(33, "isRight(3)", x.isRight(3), 72);
        due(33, "limit(9)", x.limit(9), 9);
        due(33, "text()", read(x, "   child;sloppy;honest;seller  "), 4);
        int[] kinds = {0, 2, 5, 6};
        for (int i = 0; i < 4; i++) {
            due(33, "of(" + (4 + i) + ", 0)", x.of(4 + i, 0), kinds[i]);
        }
        due(33, "text(), right twice", read(x, "right 0 1;right 0 99;right 7 0"), 3);
        due(33, "isRight(0)", x.isRight(0), 99);
        due(33, "isRight(7)", x.isRight(7), 0);
        due(33, "status(-1)", x.status(-1), 0);
        SumsCopied y = new SumsCopied();
        due(33, "text(), no blanks", read(y, "honest knows0255biscuits0999;lazy knows00from00biscuits00;right07 099;limit09"), 4);
        due(33, "of(0, 1)", y.of(0, 1), 255);
        due(33, "of(0, 4)", y.of(0, 4), 999);
        due(33, "of(1, 2)", y.of(1, 2), 0);
        due(33, "of(1, 4)", y.of(1, 4), 0);
        due(33, "isRight(7)", y.isRight(7), 99);
        due(33, "limit(1)", y.limit(1), 9);
    }

    private static void faults() {
        String[] texts = {
            "", "   ", ";", "child;", "child;;child", "childs", "child 5", "child knows", "child knows 256",
            "child knows x", "child knows 1000000000000000000000", "child from 0", "child;child from 1",
            "child biscuits 1000", "child biscuits 1 from 0", "child knows 1 knows 1", "right", "right 8 0", "right 1",
            "right 1 100", "limit 0", "limit 10", "limit 1 1", "limit 1,", "Child", "child\t;child", "xbiscuits",
            "child xbiscuits 5", "limit 1;limit 2;limit 3;x", "child from 0000", "child knows;", "right 1;2",
            "child\u00e9", "limit 1 ;", "limit 1 ; ", "knows 1", "5", "honestknows 3", "child biscuits 9990",
        };
        int[] at = {
            0, 3, 0, 6, 6, 0, 6, 11, 12,
            12, 12, 11, 17,
            15, 17, 14, 5, 6, 7,
            8, 6, 6, 8, 7, 0, 5, 0,
            6, 24, 11, 11, 7,
            5, 9, 10, 0, 0, 0, 15,
        };
        for (int i = 0; i < texts.length; i++) {
            SumsCopied x = new SumsCopied();
            due(33, "text() of '" + texts[i] + "'", read(x, texts[i]), -1 - at[i]);
            due(33, "count(5)", x.count(5), 0);
            due(33, "count(1)", x.count(1), 0);
            due(33, "limit(2)", x.limit(2), 2);
            due(33, "status(-1)", x.status(-1), 0);
        }
        SumsCopied x = oneOfEachKind();
        due(33, "text(), a 9th", read(x, "right 0 5;limit 7;sly knows 3;sly from 1"), -1 - 30);
        due(33, "count(1)", x.count(1), 7);
        due(33, "isRight(0)", x.isRight(0), 14);
        due(33, "limit(2)", x.limit(2), 2);
        due(33, "text(), the 8th", read(x, "sly from 6"), 1);
        due(33, "text(), a 9th", read(x, " sly from 99"), -1 - 1);
        due(33, "of(7, 2)", x.of(7, 2), 6);
    }

    private static void spots() {
        SumsCopied x = oneOfEachKind();
        due(34, "hold(-1, 0)", x.hold(-1, 0), BEYOND);
        due(34, "hold(10, 0)", x.hold(10, 0), BEYOND);
        due(34, "hold(0, 7)", x.hold(0, 7), BEYOND);
        due(34, "hold(0, -2)", x.hold(0, -2), BEYOND);
        due(34, "count(7)", x.count(7), 0);
        for (int c = 0; c < 7; c++) {
            due(34, "hold(" + (c + 3) + ", " + c + ")", x.hold(c + 3, c), 1);
        }
        due(34, "count(7)", x.count(7), 7);
        int[][] under = {
            {1, 0, 0, 0, 0, 0, 0},
            {1, 1, 0, 0, 0, 0, 0},
            {1, 0, 1, 0, 0, 0, 0},
            {1, 0, 1, 1, 0, 0, 0},
            {1, 0, 1, 1, 1, 0, 0},
            {1, 0, 0, 0, 0, 1, 0},
            {1, 1, 0, 0, 0, 0, 1},
        };
        for (int c = 0; c < 7; c++) {
            for (int kind = 0; kind < 7; kind++) {
                due(35, "as(" + (c + 3) + ", " + kind + ")", x.as(c + 3, kind), under[c][kind] == 1 ? c : KIND);
            }
        }
        due(34, "hold(9, -1)", x.hold(9, -1), 1);
        due(34, "hold(8, -1)", x.hold(8, -1), 1);
        due(34, "hold(0, 3)", x.hold(0, 3), 1);
        due(34, "hold(1, 3)", x.hold(1, 3), 1);
        due(34, "count(7)", x.count(7), 7);
        due(35, "as(9, 0)", x.as(9, 0), MISSING);
        due(35, "as(9, 7)", x.as(9, 7), BEYOND);
        due(35, "as(9, -1)", x.as(9, -1), BEYOND);
        due(35, "as(10, 0)", x.as(10, 0), BEYOND);
        due(35, "as(-1, 0)", x.as(-1, 0), BEYOND);
        due(35, "as(1, 2)", x.as(1, 2), 3);
        x.change(3, 0, 6);
        due(35, "as(1, 2), another kind", x.as(1, 2), KIND);
        due(35, "as(1, 1), another kind", x.as(1, 1), 3);
    }

    private static void sheets() {
        SumsCopied x = new SumsCopied();
        due(36, "sheet(-1, 8, 1)", x.sheet(-1, 8, 1), BEYOND);
        due(36, "sheet(4, 8, 1)", x.sheet(4, 8, 1), BEYOND);
        due(36, "sheet(0, 7, 1)", x.sheet(0, 7, 1), BEYOND);
        due(36, "sheet(0, 64, -1)", x.sheet(0, 64, -1), BEYOND);
        due(36, "sheet(0, 8, -1)", x.sheet(0, 8, -1), SIZE);
        due(36, "sheet(0, 0, -1)", x.sheet(0, 0, -1), SIZE);
        due(36, "sheet(0, 8, 41)", x.sheet(0, 8, 41), BEYOND);
        due(36, "load(0)", x.load(0), MISSING);
        due(36, "sheet(0, 16, 40)", x.sheet(0, 16, 40), 40);
        due(36, "sheet(3, 8, 1)", x.sheet(3, 8, 1), 1);
        due(36, "sheet(3, 0, 41)", x.sheet(3, 0, 41), BEYOND);
        due(36, "load(3)", x.load(3), 1);
        due(37, "write(0, 39, 1)", x.write(0, 39, 1), 1);
        due(37, "write(0, 40, 1)", x.write(0, 40, 1), BEYOND);
        due(37, "write(0, -1, 1)", x.write(0, -1, 1), BEYOND);
        due(37, "write(4, 0, 1)", x.write(4, 0, 1), BEYOND);
        due(37, "write(-1, 0, 1)", x.write(-1, 0, 1), BEYOND);
        due(37, "write(1, 99, 1)", x.write(1, 99, 1), MISSING);
        due(36, "sheet(0, 0, 5)", x.sheet(0, 0, 5), 0);
        due(36, "write(0, 0, 1), missing", x.write(0, 0, 1), MISSING);
        due(36, "sheet(0, 32, 0)", x.sheet(0, 32, 0), 0);
        due(36, "load(0), empty", x.load(0), 0);
        due(36, "write(0, 0, 1), empty", x.write(0, 0, 1), BEYOND);

        // The lowest bits, the highest of them for the sign: seen by what load() takes and judge() finds.
        fill(x, 1, 8, 256 + 5, 128);
        due(37, "load(1), 8 bits", x.load(1), 1);
        due(37, "isRight(0)", x.isRight(0), 5);
        fill(x, 1, 16, 65536 + 7, 32768);
        due(37, "load(1)", x.load(1), 1);
        due(37, "isRight(0)", x.isRight(0), 7);
        fill(x, 1, 32, 65536 + 7);
        due(37, "load(1)", x.load(1), 0);
        x.child(0, 0);
        x.change(0, 3, 200);
        fill(x, 2, 8, 200);
        due(37, "judge(2), 200 in 8 bits", x.judge(2), 1);
        fill(x, 2, 16, 200);
        due(37, "judge(2), 200 in 16 bits", x.judge(2), 0);
        x.change(0, 3, 0);
        due(36, "sheet(2, 16, 1), all 0", x.sheet(2, 16, 1), 1);
        due(36, "judge(2), all 0", x.judge(2), 0);
    }

    private static void copies() {
        SumsCopied x = new SumsCopied();
        fill(x, 0, 8, 1, 2, 3, 4, 5);
        fill(x, 1, 8, 0, 0, 0);
        fill(x, 2, 16, 0, 0, 0);
        due(38, "copy(4, 0, 0, 0, 1)", x.copy(4, 0, 0, 0, 1), BEYOND);
        due(38, "copy(0, 0, -1, 0, 1)", x.copy(0, 0, -1, 0, 1), BEYOND);
        due(38, "copy(3, 0, 4, 0, 1)", x.copy(3, 0, 4, 0, 1), BEYOND);
        due(38, "copy(3, 0, 0, 0, 1)", x.copy(3, 0, 0, 0, 1), MISSING);
        due(38, "copy(0, 0, 3, 0, 99)", x.copy(0, 0, 3, 0, 99), MISSING);
        due(38, "copy(0, 0, 2, 0, 99)", x.copy(0, 0, 2, 0, 99), KIND);
        due(38, "copy(0, 0, 1, 0, 4)", x.copy(0, 0, 1, 0, 4), BEYOND);
        due(38, "copy(0, 3, 1, 0, 3)", x.copy(0, 3, 1, 0, 3), BEYOND);
        due(38, "copy(0, 0, 1, 2, 2)", x.copy(0, 0, 1, 2, 2), BEYOND);
        due(38, "copy(0, -1, 1, 0, 1)", x.copy(0, -1, 1, 0, 1), BEYOND);
        due(38, "copy(0, 0, 1, -1, 1)", x.copy(0, 0, 1, -1, 1), BEYOND);
        due(38, "copy(0, 0, 1, 0, -1)", x.copy(0, 0, 1, 0, -1), BEYOND);
        int most = Integer.MAX_VALUE;
        int least = Integer.MIN_VALUE;
        due(38, "copy(0, most, 1, 0, most)", x.copy(0, most, 1, 0, most), BEYOND);
        due(38, "copy(0, 1, 1, 1, most)", x.copy(0, 1, 1, 1, most), BEYOND);
        due(38, "copy(0, least, 1, least, least)", x.copy(0, least, 1, least, least), BEYOND);
        due(38, "copy(0, 5, 1, 3, 0)", x.copy(0, 5, 1, 3, 0), 0);
        due(38, "copy(0, 6, 1, 3, 0)", x.copy(0, 6, 1, 3, 0), BEYOND);
        due(38, "copy(0, 2, 1, 0, 3)", x.copy(0, 2, 1, 0, 3), 3);
        x.load(1);
        due(38, "isRight(0)", x.isRight(0), 3);
        due(38, "isRight(2)", x.isRight(2), 5);
        due(38, "copy(0, 0, 0, 1, 4)", x.copy(0, 0, 0, 1, 4), 4);
        x.load(0);
        int[] up = {1, 1, 2, 3, 4};
        for (int i = 0; i < 5; i++) {
            due(38, "isRight(" + i + "), onto itself", x.isRight(i), up[i]);
        }
        due(38, "copy(0, 1, 0, 0, 4)", x.copy(0, 1, 0, 0, 4), 4);
        x.load(0);
        int[] down = {1, 2, 3, 4, 4};
        for (int i = 0; i < 5; i++) {
            due(38, "isRight(" + i + "), onto itself", x.isRight(i), down[i]);
        }
        due(38, "status(2)", x.status(2), 1);
    }

    private static void loadsAndJudges() {
        SumsCopied x = copiers();
        due(39, "load(4)", x.load(4), BEYOND);
        due(39, "load(-1)", x.load(-1), BEYOND);
        due(39, "load(0)", x.load(0), MISSING);
        fill(x, 0, 16, 99, 0, 100, 5);
        due(39, "load(0)", x.load(0), 2);
        int[] want = {99, 0, 36, 47};
        for (int s = 0; s < 4; s++) {
            due(39, "isRight(" + s + ")", x.isRight(s), want[s]);
        }
        fill(x, 0, 16, 8, -1);
        due(39, "load(0)", x.load(0), 1);
        fill(x, 0, 16, 1, 2, 3, 4, 5, 6, 7, 8, 9, 10);
        due(39, "load(0), more than there are", x.load(0), 8);
        due(39, "isRight(7)", x.isRight(7), 8);

        due(40, "judge(4)", x.judge(4), BEYOND);
        due(40, "judge(-1)", x.judge(-1), BEYOND);
        due(40, "judge(1)", x.judge(1), MISSING);
        x.change(0, 3, 7);
        x.change(1, 3, 300);
        x.change(2, 3, 9);
        fill(x, 1, 16, 7, 300, 9);
        due(40, "judge(1)", x.judge(1), 0);
        fill(x, 1, 16, 7, 300);
        due(40, "judge(1), fewer", x.judge(1), 0);
        fill(x, 1, 16);
        due(40, "judge(1), none", x.judge(1), 0);
        fill(x, 1, 16, 6, 300, 9);
        due(40, "judge(1)", x.judge(1), 1);
        fill(x, 1, 16, 7, 300, 8);
        due(40, "judge(1)", x.judge(1), 3);
        fill(x, 1, 16, 7, 300, 9, 0);
        due(40, "judge(1), more", x.judge(1), 4);
    }

    private static void images() {
        SumsCopied x = copiers();
        x.go(1);
        x.limit(3);
        x.seed(77);
        x.hold(2, 1);
        feedAll(x, "sly");
        fill(x, 0, 8, 1);
        due(41, "image()", x.image(), 1);
        x.go(2);
        x.right(0, 1);
        x.limit(9);
        x.child(3, 3);
        x.change(1, 2, 3);
        x.seed(78);
        x.hold(2, 3);
        x.hold(3, 3);
        x.feed('y', 1);
        x.write(0, 0, 2);
        x.limit(0);
        due(42, "undo()", x.undo(), 1);
        due(42, "count(0)", x.count(0), 1);
        due(42, "count(1)", x.count(1), 3);
        due(42, "count(2)", x.count(2), 8);
        due(42, "count(3)", x.count(3), 2);
        due(42, "count(4)", x.count(4), 15);
        due(42, "count(5), the tape stays", x.count(5), 4);
        due(42, "count(6)", x.count(6), 77);
        due(42, "count(7)", x.count(7), 1);
        due(42, "status(0)", x.status(0), 1);
        due(42, "isRight(0)", x.isRight(0), 43);
        due(42, "answer(1, 1)", x.answer(1, 1), 52);
        due(42, "of(1, 2)", x.of(1, 2), 0);
        due(42, "as(2, 2)", x.as(2, 2), 1);
        due(42, "limit(3)", x.limit(3), 3);
        due(42, "load(0), sheets stay", x.load(0), 1);
        due(42, "isRight(0)", x.isRight(0), 2);
        x.go(5);
        due(42, "undo(), it stays", x.undo(), 1);
        due(42, "isRight(0)", x.isRight(0), 43);
        x.go(1);
        due(41, "image(), a later one", x.image(), 1);
        x.go(1);
        due(42, "undo(), the latest", x.undo(), 2);
        due(42, "undo(), the latest", x.undo(), 2);
        due(43, "tear()", x.tear(), 1);
        due(43, "tear()", x.tear(), 0);
        due(42, "undo()", x.undo(), NONE);
        due(43, "count(0)", x.count(0), 2);
    }

    private static void counts() {
        SumsCopied x = copiers();
        x.go(2);
        x.hold(0, 0);
        x.hold(9, 0);
        x.feed(0, 3);
        x.seed(9);
        int[] want = {2, 3, 16, 4, 15, 3, 9, 2};
        for (int what = 0; what < 8; what++) {
            due(44, "count(" + what + ")", x.count(what), want[what]);
        }
        due(44, "count(8)", x.count(8), BEYOND);
        due(44, "count(-1)", x.count(-1), BEYOND);
    }

    private static void statuses() {
        SumsCopied x = oneOfEachKind();
        x.child(0, 0);
        x.child(0, 0);
        x.child(0, 0);
        x.hold(0, 0);
        x.as(0, 1);
        x.as(0, 2);
        x.as(0, 3);
        x.undo();
        x.load(0);
        x.load(0);
        x.sheet(0, 8, -1);
        x.isRight(8);
        x.odds(9, 0, 0);
        int[] want = {2, 2, 3, 1, 0, 2, 1};
        for (int which = 0; which < 7; which++) {
            due(45, "status(" + which + ")", x.status(which), want[which]);
        }
        due(45, "status(-1)", x.status(-1), 11);
        due(45, "status(7)", x.status(7), BEYOND);
        due(45, "status(-2)", x.status(-2), BEYOND);
        due(45, "status(0)", x.status(0), 4);
        due(45, "status(-1)", x.status(-1), 13);
        x.image();
        x.load(0);
        x.undo();
        due(45, "status(-1), undo takes none back", x.status(-1), 14);
    }
}
