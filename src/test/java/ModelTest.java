import java.util.ArrayList;
import java.util.List;
import java.util.Random;
import java.util.TreeSet;
import java.util.regex.Matcher;
import java.util.regex.Pattern;

/** Long runs of chosen calls against a model that tries everything out and takes no short way. */
public final class ModelTest {
    private static final int OBJECTS = 500;
    private static final int CALLS = 400;

    private static final long BEYOND = -1000001;
    private static final long FULL = -1000002;
    private static final long KIND = -1000003;
    private static final long NONE = -1000004;
    private static final long STATE = -1000005;
    private static final long MISSING = -1000006;
    private static final long SIZE = -1000007;

    // ---- the model

    static final class Kid {
        int kind;
        int knows;
        int from = -1;
        int marks = 0;
        int biscuits = 5;
        int caught = 0;
        int[] answers = {-1, -1, -1, -1, -1, -1, -1, -1};

        Kid twin() {
            Kid k = new Kid();
            k.kind = kind;
            k.knows = knows;
            k.from = from;
            k.marks = marks;
            k.biscuits = biscuits;
            k.caught = caught;
            k.answers = answers.clone();
            return k;
        }

        int pays() {
            return switch (kind) {
                case 0, 1 -> 1;
                case 2, 3, 4 -> 2;
                default -> 0;
            };
        }

        boolean lends(int day) {
            return switch (kind) {
                case 5 -> false;
                case 4 -> day % 2 == 0;
                case 6 -> biscuits < 20;
                default -> true;
            };
        }

        int slip(int s, int a, int day) {
            if (a == -1 || kind == 5) {
                return -1;
            }
            if ((kind == 1 || kind == 6) && (s == 0 || s == 4)) {
                return -1;
            }
            if (kind == 4 && day % 2 != 0) {
                return -1;
            }
            String digits = String.format("%02d", a);
            if (kind >= 2 && kind <= 4 && s % 2 != 0) {
                digits = new StringBuilder(digits).reverse().toString();
            }
            if (kind == 3 || kind == 4) {
                digits = digits.replace('7', '1');
            }
            return Integer.parseInt(digits);
        }

        void set(int what, int v) {
            switch (what) {
                case 0 -> kind = v;
                case 1 -> knows = v;
                case 2 -> from = v;
                case 3 -> marks = v;
                case 4 -> biscuits = v;
                default -> caught = v;
            }
        }

        int get(int what) {
            return new int[] {kind, knows, from, marks, biscuits, caught}[what];
        }
    }

    static final class World {
        int[] right = {14, 25, 36, 47, 58, 69, 80, 91};
        int limit = 2;
        int day = 0;
        int z = 1;
        int[] spots = {-1, -1, -1, -1, -1, -1, -1, -1, -1, -1};
        List<Kid> kids = new ArrayList<>();

        World twin() {
            World w = new World();
            w.right = right.clone();
            w.limit = limit;
            w.day = day;
            w.z = z;
            w.spots = spots.clone();
            for (Kid k : kids) {
                w.kids.add(k.twin());
            }
            return w;
        }

        World with(int child, int what, int v) {
            World w = twin();
            w.kids.get(child).set(what, v);
            return w;
        }

        World behind(int n) {
            World w = twin();
            for (int i = 0; i < n; i++) {
                w.dayGoesBy();
            }
            return w;
        }

        void dayGoesBy() {
            for (Kid k : kids) {
                Kid other = k.from < 0 ? null : kids.get(k.from);
                boolean copies = other != null && other.lends(day) && k.biscuits >= k.pays();
                for (int s = 0; s < 8; s++) {
                    boolean known = (k.knows & 1 << s) != 0;
                    k.answers[s] = known ? right[s] : copies ? k.slip(s, other.answers[s], day) : -1;
                }
                if (copies) {
                    k.biscuits -= k.pays();
                    other.biscuits = Math.min(999, other.biscuits + k.pays());
                }
            }
            List<Kid> caught = new ArrayList<>();
            for (Kid k : kids) {
                boolean isCaught = false;
                for (Kid other : kids) {
                    isCaught |= other != k && Integer.bitCount(alike(k, other)) >= limit;
                }
                if (isCaught) {
                    caught.add(k);
                }
            }
            for (Kid k : kids) {
                if (caught.contains(k)) {
                    k.caught = Math.min(9999, k.caught + 1);
                    k.knows |= 1 << day % 8;
                } else {
                    for (int s = 0; s < 8; s++) {
                        k.marks = Math.min(9999, k.marks + (k.answers[s] == right[s] ? 1 : 0));
                    }
                }
            }
            for (int s = 0; s < 8; s++) {
                right[s] = (3 * right[s] + s + 1) % 100;
            }
            day = Math.min(99999, day + 1);
        }

        int alike(Kid a, Kid b) {
            int set = 0;
            for (int s = 0; s < 8; s++) {
                if (a.answers[s] == b.answers[s] && a.answers[s] != right[s] && a.answers[s] != -1) {
                    set |= 1 << s;
                }
            }
            return set;
        }

        int total(int what) {
            return kids.stream().mapToInt(k -> k.get(what)).sum();
        }

        int draw() {
            z = z * 1103515245 + 12345;
            return z >>> 8;
        }
    }

    static final class Fault extends RuntimeException {
        final int place;

        Fault(int place) {
            super(null, null, false, false);
            this.place = place;
        }
    }

    static final class Reader {
        static final Pattern TOKEN = Pattern.compile(" *([a-z]+|[0-9]+|[^ ]|$)", Pattern.DOTALL);
        static final List<String> KINDS = List.of("child", "sly", "sloppy", "seven", "lazy", "honest", "seller");
        final List<String> tokens = new ArrayList<>();
        final List<Integer> places = new ArrayList<>();
        int at = 0;

        Reader(String text) {
            Matcher m = TOKEN.matcher(text);
            while (m.find()) {
                tokens.add(m.group(1));
                places.add(m.start(1));
                if (m.group(1).isEmpty()) {
                    break;
                }
            }
        }

        int items(World w) {
            int items = 0;
            do {
                item(w);
                items++;
            } while (take(";"));
            if (!tokens.get(at).isEmpty()) {
                throw new Fault(places.get(at));
            }
            return items;
        }

        boolean take(String token) {
            if (tokens.get(at).equals(token)) {
                at++;
                return true;
            }
            return false;
        }

        int number(int least, int most) {
            String t = tokens.get(at);
            if (!t.matches("0*[0-9]{1,3}") || Integer.parseInt(t) < least || Integer.parseInt(t) > most) {
                throw new Fault(places.get(at));
            }
            at++;
            return Integer.parseInt(t);
        }

        void item(World w) {
            if (take("right")) {
                int s = number(0, 7);
                w.right[s] = number(0, 99);
            } else if (take("limit")) {
                w.limit = number(1, 9);
            } else {
                Kid k = new Kid();
                k.kind = KINDS.indexOf(tokens.get(at));
                if (k.kind < 0 || w.kids.size() == 8) {
                    throw new Fault(places.get(at));
                }
                at++;
                k.knows = take("knows") ? number(0, 255) : 0;
                k.from = take("from") ? number(0, w.kids.size() - 1) : -1;
                k.biscuits = take("biscuits") ? number(0, 999) : 5;
                w.kids.add(k);
            }
        }
    }

    static final class Model {
        World w = new World();
        World kept = null;
        StringBuilder tape = new StringBuilder();
        int[][] sheets = new int[4][];
        int[] bits = new int[4];
        int[] found = new int[7];

        long answer(String name, int... p) {
            long a = act(name, p);
            boolean mayBeAnything = name.equals("seed") || name.equals("count") && p[0] == 6;
            if (!mayBeAnything && a <= BEYOND && a >= SIZE) {
                found[(int) (BEYOND - a)]++;
            }
            return a;
        }

        boolean in(int v, int least, int most) {
            return v >= least && v <= most;
        }

        boolean kid(int c) {
            return in(c, 0, w.kids.size() - 1);
        }

        long act(String name, int... p) {
            switch (name) {
                case "right", "isRight", "limit", "child", "of", "change", "answer", "slips", "alike":
                    return simple(name, p);
                case "go", "now", "chain", "seats", "odds", "seed":
                    return daily(name, p);
                case "ahead", "writes", "caught", "when":
                    return ahead(name, p);
                case "copyFrom", "kindFor", "learn", "limitFor", "forbid", "biscuitsFor":
                    return advice(name, p);
                case "sources", "fits", "knew", "kinds":
                    return guess(name, p);
                case "sheet", "write", "copy", "load", "judge":
                    return sheet(name, p);
                default:
                    return rest(name, p);
            }
        }

        long simple(String name, int[] p) {
            if (name.equals("right")) {
                if (!in(p[0], 0, 7) || !in(p[1], 0, 99)) {
                    return BEYOND;
                }
                int was = w.right[p[0]];
                w.right[p[0]] = p[1];
                return was;
            }
            if (name.equals("isRight")) {
                return in(p[0], 0, 7) ? w.right[p[0]] : BEYOND;
            }
            if (name.equals("limit")) {
                if (!in(p[0], 1, 9)) {
                    return BEYOND;
                }
                int was = w.limit;
                w.limit = p[0];
                return was;
            }
            if (name.equals("child")) {
                if (!in(p[0], 0, 6) || !in(p[1], 0, 255)) {
                    return BEYOND;
                }
                if (w.kids.size() == 8) {
                    return FULL;
                }
                Kid k = new Kid();
                k.kind = p[0];
                k.knows = p[1];
                w.kids.add(k);
                return w.kids.size() - 1;
            }
            if (!kid(p[0])) {
                return BEYOND;
            }
            Kid k = w.kids.get(p[0]);
            switch (name) {
                case "of":
                    if (!in(p[1], 0, 8)) {
                        return BEYOND;
                    }
                    if (p[1] < 6) {
                        return k.get(p[1]);
                    }
                    if (p[1] == 8) {
                        int set = 0;
                        for (int s = 0; s < 8; s++) {
                            set += k.answers[s] == -1 ? 0 : 1 << s;
                        }
                        return set;
                    }
                    return p[1] == 6 ? k.pays() : k.lends(w.day) ? 1 : 0;
                case "change":
                    if (!in(p[1], 0, 5)) {
                        return BEYOND;
                    }
                    int[] least = {0, 0, -1, 0, 0, 0};
                    int[] most = {6, 255, w.kids.size() - 1, 9999, 999, 9999};
                    if (!in(p[2], least[p[1]], most[p[1]]) || p[1] == 2 && p[2] == p[0]) {
                        return BEYOND;
                    }
                    int was = k.get(p[1]);
                    k.set(p[1], p[2]);
                    return was;
                case "answer":
                    return in(p[1], 0, 7) ? k.answers[p[1]] : BEYOND;
                case "slips":
                    return in(p[1], 0, 7) && in(p[2], -1, 99) ? k.slip(p[1], p[2], w.day) : BEYOND;
                default:
                    return kid(p[1]) && p[0] != p[1] ? w.alike(k, w.kids.get(p[1])) : BEYOND;
            }
        }

        long daily(String name, int[] p) {
            switch (name) {
                case "go":
                    if (!in(p[0], 1, 60)) {
                        return BEYOND;
                    }
                    if (w.day + p[0] > 99999) {
                        return STATE;
                    }
                    w = w.behind(p[0]);
                    return w.total(3);
                case "seats":
                    if (!in(p[0], 1, 20)) {
                        return BEYOND;
                    }
                    if (w.day + p[0] > 99999) {
                        return STATE;
                    }
                    for (int i = 0; i < p[0]; i++) {
                        int a = w.draw() % 8;
                        int b = w.draw() % 8;
                        if (kid(a) && kid(b) && a != b) {
                            w.kids.get(a).from = b;
                        }
                        w.dayGoesBy();
                    }
                    return w.total(3);
                case "now":
                    return now(p[0]);
                case "chain":
                    if (!kid(p[0])) {
                        return BEYOND;
                    }
                    int steps = 0;
                    for (int c = p[0]; steps < 8 && w.kids.get(c).from >= 0; steps++) {
                        c = w.kids.get(c).from;
                    }
                    return steps;
                case "odds":
                    if (!kid(p[0]) || !in(p[1], 0, 20) || !in(p[2], 0, 1)) {
                        return BEYOND;
                    }
                    java.math.BigInteger above =
                        java.math.BigInteger.valueOf(Integer.bitCount(w.kids.get(p[0]).knows)).pow(p[1]);
                    java.math.BigInteger below = java.math.BigInteger.valueOf(8).pow(p[1]);
                    return (p[2] == 0 ? above : below).divide(above.gcd(below)).longValueExact();
                default:
                    int was = w.z;
                    w.z = p[0];
                    return was;
            }
        }

        long now(int what) {
            switch (what) {
                case 0:
                    return w.day;
                case 1:
                    return w.total(3);
                case 2:
                    return w.total(5);
                case 3:
                    return w.total(4);
                case 4, 5, 6:
                    int most = w.kids.stream().mapToInt(k -> k.marks).max().orElse(0);
                    int copied = 0;
                    int best = 0;
                    int unknown = 255;
                    for (int c = 0; c < w.kids.size(); c++) {
                        Kid k = w.kids.get(c);
                        copied |= k.from >= 0 ? 1 << k.from : 0;
                        best |= k.marks == most ? 1 << c : 0;
                        unknown &= ~k.knows;
                    }
                    return what == 4 ? copied : what == 5 ? best : unknown;
                default:
                    return BEYOND;
            }
        }

        long ahead(String name, int[] p) {
            if (!kid(p[0])) {
                return BEYOND;
            }
            switch (name) {
                case "ahead":
                    boolean told = List.of(1, 3, 4, 5).contains(p[1]);
                    return told && in(p[2], 0, 60) ? w.behind(p[2]).kids.get(p[0]).get(p[1]) : BEYOND;
                case "writes":
                    boolean sum = in(p[1], 0, 7) && in(p[2], 0, 60);
                    return sum ? w.behind(p[2]).kids.get(p[0]).answers[p[1]] : BEYOND;
                case "caught":
                    for (int n = 1; n <= 60; n++) {
                        if (w.behind(n).kids.get(p[0]).caught > w.kids.get(p[0]).caught) {
                            return n;
                        }
                    }
                    return NONE;
                default:
                    if (!in(p[1], 0, 9999)) {
                        return BEYOND;
                    }
                    for (int n = 0; n <= 60; n++) {
                        if (w.behind(n).kids.get(p[0]).marks >= p[1]) {
                            return n;
                        }
                    }
                    return NONE;
            }
        }

        long advice(String name, int[] p) {
            if (name.equals("limitFor")) {
                if (!in(p[0], 0, 20)) {
                    return BEYOND;
                }
                for (int limit = 1; limit <= 9; limit++) {
                    World t = w.twin();
                    t.limit = limit;
                    if (t.behind(p[0]).total(5) == w.total(5)) {
                        return limit;
                    }
                }
                return NONE;
            }
            if (name.equals("forbid")) {
                return in(p[0], 0, 12) ? forbid(p[0]) : BEYOND;
            }
            if (!kid(p[0]) || !in(p[1], 0, 20)) {
                return BEYOND;
            }
            List<Integer> choices = new ArrayList<>();
            int what = name.equals("copyFrom") ? 2 : name.equals("kindFor") ? 0 : name.equals("learn") ? 1 : 4;
            switch (what) {
                case 0:
                    choices.addAll(List.of(0, 1, 2, 3, 4, 5, 6));
                    break;
                case 1:
                    choices.addAll(List.of(0, 1, 2, 3, 4, 5, 6, 7));
                    break;
                case 2:
                    for (int c = 0; c < w.kids.size(); c++) {
                        choices.add(c);
                    }
                    choices.remove((Integer) p[0]);
                    choices.add(-1);
                    break;
                default:
                    int wanted = w.with(p[0], 4, 99).behind(p[1]).kids.get(p[0]).marks;
                    for (int b = 0;; b++) {
                        if (w.with(p[0], 4, b).behind(p[1]).kids.get(p[0]).marks == wanted) {
                            return b;
                        }
                    }
            }
            int[] marks = new int[choices.size()];
            int best = 0;
            for (int i = 0; i < marks.length; i++) {
                int v = choices.get(i);
                v = what == 1 ? w.kids.get(p[0]).knows | 1 << v : v;
                marks[i] = w.with(p[0], what, v).behind(p[1]).kids.get(p[0]).marks;
                best = marks[i] > marks[best] ? i : best;
            }
            return choices.get(best);
        }

        long forbid(int n) {
            // Sets of how many CHILDREN, times 256, and the set: the least of these is the answer.
            TreeSet<Integer> safe = new TreeSet<>();
            for (int set = 0; set < 1 << w.kids.size(); set++) {
                World t = w.twin();
                for (Kid k : t.kids) {
                    k.from = k.from >= 0 && (set & 1 << k.from) != 0 ? -1 : k.from;
                }
                if (t.behind(n).total(5) == w.total(5)) {
                    safe.add(Integer.bitCount(set) * 256 + set);
                }
            }
            return safe.first() % 256;
        }

        long sheetFinding(int s) {
            return !in(s, 0, 3) ? BEYOND : sheets[s] == null ? MISSING : 0;
        }

        boolean asTold(World t, int c, int[] sheet) {
            for (int s = 0; s < Math.min(8, sheet.length); s++) {
                if (sheet[s] != -2 && sheet[s] != t.kids.get(c).answers[s]) {
                    return false;
                }
            }
            return true;
        }

        long guess(String name, int[] p) {
            if (sheetFinding(p[0]) != 0) {
                return sheetFinding(p[0]);
            }
            if (!kid(p[1])) {
                return BEYOND;
            }
            int what = name.equals("sources") ? 2 : name.equals("kinds") ? 0 : 1;
            int most = what == 2 ? w.kids.size() - 1 : what == 0 ? 6 : 255;
            List<Integer> fit = new ArrayList<>();
            int set = 0;
            for (int v = 0; v <= most; v++) {
                boolean itself = what == 2 && v == p[1];
                if (!itself && asTold(w.with(p[1], what, v).behind(1), p[1], sheets[p[0]])) {
                    fit.add(v);
                    set |= 1 << v % 32;
                }
            }
            return switch (name) {
                case "fits" -> fit.size();
                case "knew" -> fit.isEmpty() ? NONE : fit.get(0);
                default -> set;
            };
        }

        long sheet(String name, int[] p) {
            if (name.equals("sheet")) {
                if (!in(p[0], 0, 3) || !List.of(0, 8, 16, 32).contains(p[1])) {
                    return BEYOND;
                }
                if (p[2] < 0) {
                    return SIZE;
                }
                if (p[2] > 40) {
                    return BEYOND;
                }
                bits[p[0]] = p[1];
                sheets[p[0]] = p[1] == 0 ? null : new int[p[2]];
                return p[1] == 0 ? 0 : p[2];
            }
            if (name.equals("copy")) {
                if (!in(p[0], 0, 3) || !in(p[2], 0, 3)) {
                    return BEYOND;
                }
                if (sheets[p[0]] == null || sheets[p[2]] == null) {
                    return MISSING;
                }
                if (bits[p[0]] != bits[p[2]]) {
                    return KIND;
                }
                boolean below = p[1] < 0 || p[3] < 0 || p[4] < 0;
                long sourceEnd = (long) p[1] + p[4];
                long targetEnd = (long) p[3] + p[4];
                if (below || sourceEnd > sheets[p[0]].length || targetEnd > sheets[p[2]].length) {
                    return BEYOND;
                }
                int[] were = sheets[p[0]].clone();
                for (int i = 0; i < p[4]; i++) {
                    sheets[p[2]][p[3] + i] = were[p[1] + i];
                }
                return p[4];
            }
            if (sheetFinding(p[0]) != 0) {
                return sheetFinding(p[0]);
            }
            int[] row = sheets[p[0]];
            switch (name) {
                case "write":
                    if (!in(p[1], 0, row.length - 1)) {
                        return BEYOND;
                    }
                    int shift = 32 - bits[p[0]];
                    row[p[1]] = p[2] << shift >> shift;
                    return 1;
                case "load":
                    int came = 0;
                    for (; came < Math.min(8, row.length) && in(row[came], 0, 99); came++) {
                        w.right[came] = row[came];
                    }
                    return came;
                default:
                    for (int i = 0; i < row.length; i++) {
                        if (i >= w.kids.size() || w.kids.get(i).marks != row[i]) {
                            return 1 + i;
                        }
                    }
                    return 0;
            }
        }

        long rest(String name, int[] p) {
            switch (name) {
                case "feed":
                    if (!in(p[1], 1, 4)) {
                        return BEYOND;
                    }
                    if (tape.length() + p[1] > 120) {
                        return FULL;
                    }
                    for (int i = p[1]; i > 0; i--) {
                        tape.append((char) (p[0] >>> 8 * (i - 1) & 255));
                    }
                    return tape.length();
                case "wipe":
                    int had = tape.length();
                    tape.setLength(0);
                    return had;
                case "text":
                    String text = tape.toString();
                    tape.setLength(0);
                    World t = w.twin();
                    try {
                        int items = new Reader(text).items(t);
                        w = t;
                        return items;
                    } catch (Fault f) {
                        return -1 - f.place;
                    }
                case "hold":
                    if (!in(p[0], 0, 9) || !in(p[1], -1, w.kids.size() - 1)) {
                        return BEYOND;
                    }
                    w.spots[p[0]] = p[1];
                    return 1;
                case "as":
                    if (!in(p[0], 0, 9) || !in(p[1], 0, 6)) {
                        return BEYOND;
                    }
                    if (w.spots[p[0]] < 0) {
                        return MISSING;
                    }
                    String[] ways = {"0", "10", "20", "320", "4320", "50", "610"};
                    String way = ways[w.kids.get(w.spots[p[0]]).kind];
                    return way.contains("" + p[1]) ? w.spots[p[0]] : KIND;
                case "image":
                    kept = w.twin();
                    return 1;
                case "undo":
                    if (kept == null) {
                        return NONE;
                    }
                    w = kept.twin();
                    return w.day;
                case "tear":
                    boolean was = kept != null;
                    kept = null;
                    return was ? 1 : 0;
                case "count":
                    int held = 0;
                    for (int c : w.spots) {
                        held += c >= 0 ? 1 : 0;
                    }
                    long[] counts = {
                        w.day, w.kids.size(), w.total(3), w.total(5), w.total(4), tape.length(), w.z, held,
                    };
                    return in(p[0], 0, 7) ? counts[p[0]] : BEYOND;
                default:
                    int all = 0;
                    for (int f : found) {
                        all += f;
                    }
                    return p[0] == -1 ? all : in(p[0], 0, 6) ? found[p[0]] : BEYOND;
            }
        }
    }

    // ---- the runs

    private static final Random chance = new Random(19);
    private static SumsCopied x;
    private static Model model;
    private static StringBuilder run;
    private static int calls;
    private static int wrong = 0;
    private static int total = 0;

    private static long call(String name, int... p) {
        if (calls >= 512) {
            return 0;
        }
        calls++;
        total++;
        long want = model.answer(name, p);
        long got = real(name, p);
        run.append(name).append(java.util.Arrays.toString(p)).append(" = ").append(got).append('\n');
        if (got != want) {
            wrong++;
            if (wrong <= 3) {
                System.out.println(run + "due is " + want);
            }
        }
        return got;
    }

    private static long real(String name, int[] p) {
        try {
            Class<?>[] types = new Class<?>[p.length];
            Object[] values = new Object[p.length];
            for (int i = 0; i < p.length; i++) {
                types[i] = int.class;
                values[i] = p[i];
            }
            return ((Number) SumsCopied.class.getMethod(name, types).invoke(x, values)).longValue();
        } catch (ReflectiveOperationException e) {
            System.out.println(run + name + java.util.Arrays.toString(p) + " threw " + e.getCause());
            System.exit(1);
            return 0;
        }
    }

    private static int any(int least, int most) {
        return least + chance.nextInt(most - least + 1);
    }

    /** Mostly within, at times one beyond, seldom far beyond. */
    private static int about(int least, int most) {
        int how = chance.nextInt(40);
        if (how == 0) {
            return least - 1;
        }
        if (how == 1) {
            return most + 1;
        }
        if (how == 2) {
            int[] far = {Integer.MIN_VALUE, Integer.MAX_VALUE, -2, 256, 1000};
            return far[chance.nextInt(far.length)];
        }
        return any(least, most);
    }

    private static int aChild() {
        return about(0, Math.max(0, model.w.kids.size() - 1));
    }

    private static final String[] NAMES = {
        "right", "isRight", "limit", "child", "of", "of", "change", "change", "change", "answer", "slips", "alike",
        "alike", "go", "go", "now", "chain", "ahead", "writes", "caught", "when", "copyFrom", "kindFor", "learn",
        "limitFor", "forbid", "biscuitsFor", "sources", "fits", "knew", "kinds", "seats", "odds", "seed", "feed",
        "wipe", "text", "hold", "as", "sheet", "write", "copy", "load", "judge", "image", "undo", "tear", "count",
        "status", "FILL", "TEXT", "MARKS", "TEMPT", "TEMPT",
    };

    private static void step() {
        String name = NAMES[chance.nextInt(NAMES.length)];
        switch (name) {
            case "right" -> call(name, about(0, 7), about(0, 99));
            case "isRight" -> call(name, about(0, 7));
            case "limit" -> call(name, about(1, chance.nextInt(3) == 0 ? 9 : 3));
            case "child" -> call(name, about(0, 6), about(0, 255) & (chance.nextBoolean() ? -1 : 0x11));
            case "of" -> call(name, aChild(), about(0, 8));
            case "change" -> {
                int what = about(0, 5);
                int[] most = {6, 255, Math.max(0, model.w.kids.size() - 1), 9999, 30, 9999};
                int low = what == 2 ? -1 : 0;
                call(name, aChild(), what, about(low, what < 0 || what > 5 ? 9 : most[what]));
            }
            case "answer" -> call(name, aChild(), about(0, 7));
            case "slips" -> call(name, aChild(), about(0, 7), about(-1, 99));
            case "alike" -> call(name, aChild(), aChild());
            case "go" -> call(name, about(1, chance.nextInt(4) == 0 ? 60 : 2));
            case "now" -> call(name, about(0, 6));
            case "chain", "caught" -> call(name, aChild());
            case "ahead" -> call(name, aChild(), about(0, 6), about(0, 60));
            case "writes" -> call(name, aChild(), about(0, 7), about(0, chance.nextBoolean() ? 60 : 4));
            case "when" -> {
                int c = aChild();
                boolean near = model.kid(c) && chance.nextInt(4) != 0;
                call(name, c, near ? model.w.kids.get(c).marks + any(0, 400) : about(0, 9999));
            }
            case "copyFrom", "kindFor", "learn", "biscuitsFor" -> call(name, aChild(), about(0, 20));
            case "limitFor" -> call(name, about(0, 20));
            case "forbid" -> call(name, about(0, chance.nextInt(3) == 0 ? 12 : 3));
            case "sources", "fits", "knew", "kinds", "MARKS", "FILL" -> onSheets(name);
            case "TEMPT" -> tempt(chance.nextInt(8));
            case "seats" -> call(name, about(1, 20));
            case "odds" -> call(name, aChild(), about(0, 20), about(0, 1));
            case "seed" -> call(name, chance.nextInt());
            case "feed" -> call(name, chance.nextInt(), about(1, 4));
            case "wipe", "text", "image", "undo", "tear" -> call(name);
            case "hold" -> call(name, about(0, 9), aChild());
            case "as" -> call(name, about(0, 9), about(0, 6));
            case "sheet" -> {
                int[] bits = {0, 8, 8, 16, 16, 32, 32, 7};
                call(name, about(0, 3), bits[chance.nextInt(8)], about(0, chance.nextBoolean() ? 40 : 6));
            }
            case "write" -> call(name, about(0, 3), about(0, 10), chance.nextBoolean() ? chance.nextInt() : any(-2, 99));
            case "copy" -> call(name, about(0, 3), about(0, 10), about(0, 3), about(0, 10), about(0, 10));
            case "load", "judge" -> call(name, about(0, 3));
            case "count" -> call(name, about(0, 7));
            case "status" -> call(name, about(-1, 6));
            default -> feedText();
        }
    }

    /** A CHILD that can pay for long, knows little and copies, so that some are caught. */
    private static void tempt(int c) {
        int[] kinds = {2, 2, 3, 3, 4, 0, 1, 6};
        call("change", c, 0, kinds[chance.nextInt(kinds.length)]);
        call("change", c, 1, 1 << chance.nextInt(8) & any(0, 255));
        call("change", c, 2, chance.nextInt(8));
        call("change", c, 4, any(0, 999));
    }

    /** One who knows much, and many who copy from it or from one another. */
    private static void temptingClass() {
        for (int c = 0; c < 8; c++) {
            call("child", 0, c == 0 ? 255 : 0);
        }
        for (int c = 1; c < 8; c++) {
            tempt(c);
            call("change", c, 2, chance.nextInt(c));
        }
    }

    /** Sheets that tell what would come about, with gaps and at times a mistake. */
    private static void onSheets(String name) {
        int s = about(0, 3);
        if (chance.nextInt(4) == 0 || model.w.kids.isEmpty()) {
            call(name.equals("MARKS") ? "judge" : name.equals("FILL") ? "load" : name,
                name.equals("MARKS") || name.equals("FILL") ? new int[] {s} : new int[] {s, aChild()});
            return;
        }
        int c = any(0, model.w.kids.size() - 1);
        boolean marks = name.equals("MARKS");
        World t = model.w.twin();
        if (chance.nextBoolean()) {
            int[] most = {6, 255};
            int what = any(0, 1);
            t.kids.get(c).set(what, any(0, most[what]));
        }
        t = t.behind(1);
        int n = marks ? any(1, model.w.kids.size()) : any(0, 9);
        call("sheet", s, marks ? 16 : any(1, 2) * 8, n);
        for (int i = 0; i < n; i++) {
            int v = marks ? model.w.kids.get(i).marks : i < 8 && chance.nextBoolean() ? t.kids.get(c).answers[i] : -2;
            call("write", s, i, chance.nextInt(30) == 0 ? v + 1 : v);
        }
        if (marks) {
            call("judge", s);
        } else if (name.equals("FILL")) {
            call("load", s);
        } else {
            call(name, s, c);
        }
    }

    private static void feedText() {
        String[] kinds = {"child", "sly", "sloppy", "seven", "lazy", "honest", "seller"};
        StringBuilder t = new StringBuilder();
        int items = any(1, 5);
        for (int i = 0; i < items; i++) {
            t.append(i == 0 ? "" : chance.nextBoolean() ? ";" : " ; ");
            switch (chance.nextInt(5)) {
                case 0 -> t.append("right ").append(about(0, 7)).append(' ').append(about(0, 99));
                case 1 -> t.append("limit").append(chance.nextBoolean() ? " " : "").append(about(1, 9));
                default -> {
                    t.append(kinds[chance.nextInt(7)]);
                    t.append(chance.nextBoolean() ? " knows " + about(0, 255) : "");
                    t.append(chance.nextBoolean() ? " from " + aChild() : "");
                    t.append(chance.nextBoolean() ? " biscuits " + about(0, 999) : "");
                }
            }
        }
        if (chance.nextInt(3) == 0) {
            int at = chance.nextInt(t.length());
            String signs = "; 0179aknsz#\t-";
            t.setCharAt(at, signs.charAt(chance.nextInt(signs.length())));
        }
        for (int i = 0; i < t.length(); ) {
            int n = Math.min(any(1, 4), t.length() - i);
            int bytes = 0;
            for (int j = 0; j < n; j++) {
                bytes = bytes << 8 | t.charAt(i + j);
            }
            call("feed", bytes, n);
            i += n;
        }
        call("text");
    }

    public static void main(String[] args) {
        for (int i = 0; i < OBJECTS; i++) {
            x = new SumsCopied();
            model = new Model();
            run = new StringBuilder();
            calls = 0;
            if (i % 2 == 0) {
                temptingClass();
            }
            int first = chance.nextInt(9);
            for (int c = 0; c < first; c++) {
                call("child", any(0, 6), chance.nextInt(3) == 0 ? 255 : any(0, 255) & any(0, 255));
                if (c > 0 && chance.nextInt(4) != 0) {
                    call("change", c, 2, any(0, c - 1));
                }
            }
            while (calls < CALLS) {
                step();
            }
        }
        System.out.println(total + " calls, " + wrong + " wrong");
        if (wrong != 0) {
            System.exit(1);
        }
    }
}
