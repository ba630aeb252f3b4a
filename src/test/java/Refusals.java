import java.util.List;

/**
 * Every call with the first number that is not allowed, at both ends: what it answers, that of two refusals which fit
 * the one told first is answered, and that nothing has changed behind it.
 */
public final class Refusals {
    private static final int UNKNOWN = SumsForAll.UNKNOWN, OUTSIDE = SumsForAll.OUTSIDE;
    private static final int STATE = SumsForAll.STATE, NONE = SumsForAll.NONE;
    private static final int LOW = Integer.MIN_VALUE, HIGH = Integer.MAX_VALUE;

    private static final int MANY = 4, SIZE = 3;
    // Of 4 machines: the ring has 2 times 3 rounds of 4; halves 4 of 4; tree and each 3 up and 3 down.
    private static final int[] LETTERS = {24, 16, 6, 6};
    private static final int[] NO_MACHINE = {-1, MANY, LOW, HIGH};
    private static final int[] NO_PLACE = {-1, SIZE, LOW, HIGH};
    private static final int[] NO_WAY = {-1, 4, LOW, HIGH};

    private static final List<Integer> UNTOUCHED = Seen.withImages(rich());

    private interface Call {
        int on(SumsForAll x);
    }

    private Refusals() {
    }

    public static void main(String[] args) {
        machines();
        put();
        rule();
        slow();
        at();
        way();
        letter();
        behind();
        same();
        alike();
        best();
        from();
        lost();
        worst();
        comes();
        image();
        restore();
        count();
        Check.finish();
    }

    /** Both images are kept, and no number of the three settings is what it would be at first. */
    private static SumsForAll rich() {
        SumsForAll x = new SumsForAll();
        fill(x, 3, 2, 100);
        x.image(0);
        fill(x, 2, 5, 200);
        x.image(1);
        fill(x, MANY, SIZE, 300);
        return x;
    }

    private static void fill(SumsForAll x, int many, int size, int from) {
        x.machines(many, size);
        for (int m = 0; m < many; m++) {
            for (int p = 0; p < size; p++) {
                x.put(m, p, from + m * size + p);
            }
            for (int other = m + 1; other < many; other++) {
                x.slow(m, other, 2 + (m + other) % 8);
            }
        }
        x.rule(0, 1 + size % 2);
        x.rule(1, many * 10);
        x.rule(2, size * 10);
    }

    private static void refused(int promise, String sentence, String call, int want, Call made) {
        SumsForAll x = rich();
        Check.due(promise, sentence, call, made.on(x), want);
        boolean same = Seen.withImages(x).equals(UNTOUCHED);
        Check.due(promise, "what is refused changes nothing", call, same ? 1 : 0, 1);
    }

    private static String text(String name, int... numbers) {
        return name + java.util.Arrays.toString(numbers);
    }

    private static void machines() {
        int[][] outside = {{1, 4}, {10, 4}, {4, 0}, {4, 13}, {2, 0}, {9, 13}, {1, 1}, {10, 12}, {1, 0}, {10, 13},
            {0, 4}, {-4, 4}, {4, -4}, {LOW, 4}, {HIGH, 4}, {4, LOW}, {4, HIGH}};
        for (int[] a : outside) {
            refused(2, "MANY being 2 to 9, SIZE being 1 to 12", text("machines", a), OUTSIDE, x -> x.machines(a[0], a[1]));
        }
    }

    private static void put() {
        for (int m : NO_MACHINE) {
            refused(3, "UNKNOWN: the MACHINE", text("put", m), UNKNOWN, x -> x.put(m, 0, 1));
            refused(3, "UNKNOWN, then OUTSIDE", text("put", m), UNKNOWN, x -> x.put(m, SIZE, 1));
            refused(3, "UNKNOWN, then OUTSIDE", text("put", m), UNKNOWN, x -> x.put(m, 0, 997));
            refused(3, "UNKNOWN, then OUTSIDE", text("put", m), UNKNOWN, x -> x.put(m, -1, -1));
        }
        for (int p : NO_PLACE) {
            refused(3, "OUTSIDE: both", text("put place", p), OUTSIDE, x -> x.put(0, p, 1));
            refused(3, "OUTSIDE: both", text("put place of the last", p), OUTSIDE, x -> x.put(MANY - 1, p, 1));
            refused(3, "OUTSIDE: both", text("put place and v", p), OUTSIDE, x -> x.put(0, p, 997));
        }
        for (int v : new int[] {-1, 997, LOW, HIGH}) {
            refused(3, "numbers, 0 to 996", text("put v", v), OUTSIDE, x -> x.put(1, 1, v));
        }
    }

    private static void rule() {
        int[][] outside = {{0, -1}, {0, 3}, {1, -1}, {1, 100}, {2, -1}, {2, 100}, {-1, 0}, {3, 0}, {-1, -1}, {3, 100},
            {0, LOW}, {0, HIGH}, {1, LOW}, {1, HIGH}, {2, LOW}, {2, HIGH}, {LOW, 0}, {HIGH, 0}};
        for (int[] a : outside) {
            refused(4, "OP 0 to 2, START and EACH 0 to 99", text("rule", a), OUTSIDE, x -> x.rule(a[0], a[1]));
        }
    }

    private static void slow() {
        for (int m : NO_MACHINE) {
            refused(5, "UNKNOWN: both", text("slow one", m), UNKNOWN, x -> x.slow(m, 0, 1));
            refused(5, "UNKNOWN: both", text("slow other", m), UNKNOWN, x -> x.slow(0, m, 1));
            refused(5, "UNKNOWN, then OUTSIDE", text("slow one, v", m), UNKNOWN, x -> x.slow(m, 0, 0));
            refused(5, "UNKNOWN, then OUTSIDE", text("slow other, v", m), UNKNOWN, x -> x.slow(0, m, 10));
            refused(5, "UNKNOWN, then OUTSIDE", text("slow, they are one", m), UNKNOWN, x -> x.slow(m, m, 1));
        }
        for (int m = 0; m < MANY; m++) {
            int one = m;
            refused(5, "OUTSIDE: they are one", text("slow", m, m), OUTSIDE, x -> x.slow(one, one, 1));
            refused(5, "OUTSIDE: they are one", text("slow, v", m, m), OUTSIDE, x -> x.slow(one, one, 10));
        }
        for (int v : new int[] {0, 10, -1, LOW, HIGH}) {
            refused(5, "SLOW of both MACHINES, 1 to 9", text("slow v", v), OUTSIDE, x -> x.slow(0, 1, v));
            refused(5, "SLOW of both MACHINES, 1 to 9", text("slow v", v), OUTSIDE, x -> x.slow(MANY - 1, 0, v));
        }
    }

    private static void at() {
        for (int m : NO_MACHINE) {
            refused(6, "UNKNOWN", text("at", m), UNKNOWN, x -> x.at(m, 0));
            for (int p : NO_PLACE) {
                refused(6, "NONE only where no refusal fits", text("at", m, p), UNKNOWN, x -> x.at(m, p));
            }
        }
        for (int p : NO_PLACE) {
            refused(6, "NONE: there is no such PLACE", text("at", 0, p), NONE, x -> x.at(0, p));
            refused(6, "NONE: there is no such PLACE", text("at", MANY - 1, p), NONE, x -> x.at(MANY - 1, p));
        }
    }

    private static void way() {
        for (int w : NO_WAY) {
            refused(7, "UNKNOWN", text("way", w), UNKNOWN, x -> x.way(w, 0));
            refused(7, "UNKNOWN, then OUTSIDE", text("way", w, -1), UNKNOWN, x -> x.way(w, -1));
            refused(7, "UNKNOWN, then OUTSIDE", text("way", w, 6), UNKNOWN, x -> x.way(w, 6));
        }
        for (int w = 0; w < 4; w++) {
            for (int what : new int[] {-1, 6, LOW, HIGH}) {
                int way = w;
                refused(7, "OUTSIDE", text("way", w, what), OUTSIDE, x -> x.way(way, what));
            }
        }
    }

    private static void letter() {
        for (int w : NO_WAY) {
            refused(8, "UNKNOWN", text("letter", w), UNKNOWN, x -> x.letter(w, 0, 0));
            refused(8, "UNKNOWN, then OUTSIDE", text("letter", w, 0, 7), UNKNOWN, x -> x.letter(w, 0, 7));
            refused(8, "NONE only where no refusal fits", text("letter", w, -1, 0), UNKNOWN, x -> x.letter(w, -1, 0));
        }
        for (int w = 0; w < 4; w++) {
            int way = w;
            for (int what : new int[] {-1, 7, LOW, HIGH}) {
                refused(8, "OUTSIDE: what", text("letter", w, 0, what), OUTSIDE, x -> x.letter(way, 0, what));
                refused(8, "NONE only where no refusal fits", text("letter", w, LETTERS[w], what), OUTSIDE,
                    x -> x.letter(way, LETTERS[way], what));
                refused(8, "NONE only where no refusal fits", text("letter", w, -1, what), OUTSIDE,
                    x -> x.letter(way, -1, what));
            }
            for (int k : new int[] {-1, LETTERS[w], LOW, HIGH}) {
                refused(8, "NONE: there is no such LETTER", text("letter", w, k, 0), NONE, x -> x.letter(way, k, 0));
                refused(8, "NONE: there is no such LETTER", text("letter", w, k, 6), NONE, x -> x.letter(way, k, 6));
            }
        }
    }

    private static void behind() {
        for (int w : NO_WAY) {
            refused(9, "UNKNOWN: WAY", text("behind", w), UNKNOWN, x -> x.behind(w, 0, 0, 0));
            refused(9, "UNKNOWN, then OUTSIDE", text("behind", w, -1), UNKNOWN, x -> x.behind(w, -1, 0, 0));
            refused(9, "NONE only where no refusal fits", text("behind", w), UNKNOWN, x -> x.behind(w, 0, 0, SIZE));
        }
        for (int m : NO_MACHINE) {
            refused(9, "UNKNOWN: MACHINE", text("behind", m), UNKNOWN, x -> x.behind(3, 0, m, 0));
            refused(9, "UNKNOWN, then OUTSIDE", text("behind", -1, m), UNKNOWN, x -> x.behind(3, -1, m, 0));
            refused(9, "NONE only where no refusal fits", text("behind", m), UNKNOWN, x -> x.behind(3, 0, m, -1));
        }
        for (int w = 0; w < 4; w++) {
            int way = w;
            for (int r : new int[] {-1, LOW}) {
                refused(9, "OUTSIDE: r is below 0", text("behind", w, r), OUTSIDE, x -> x.behind(way, r, 0, 0));
                refused(9, "NONE only where no refusal fits", text("behind", w, r), OUTSIDE,
                    x -> x.behind(way, r, 0, SIZE));
            }
            for (int p : NO_PLACE) {
                refused(9, "NONE: there is no such PLACE", text("behind", w, 0, 0, p), NONE, x -> x.behind(way, 0, 0, p));
                refused(9, "NONE: there is no such PLACE", text("behind", w, 99, 3, p), NONE,
                    x -> x.behind(way, 99, 3, p));
            }
        }
    }

    private static void same() {
        for (int w : NO_WAY) {
            refused(10, "UNKNOWN", text("same", w), UNKNOWN, x -> x.same(w, 0));
            refused(10, "UNKNOWN, then OUTSIDE", text("same", w, 2), UNKNOWN, x -> x.same(w, 2));
            refused(10, "UNKNOWN, then OUTSIDE", text("same", w, -1), UNKNOWN, x -> x.same(w, -1));
        }
        for (int what : new int[] {-1, 2, LOW, HIGH}) {
            refused(10, "OUTSIDE", text("same", 0, what), OUTSIDE, x -> x.same(0, what));
            refused(10, "OUTSIDE", text("same", 3, what), OUTSIDE, x -> x.same(3, what));
        }
    }

    private static void alike() {
        for (int w : NO_WAY) {
            refused(11, "UNKNOWN: both", text("alike", w, 0), UNKNOWN, x -> x.alike(w, 0));
            refused(11, "UNKNOWN: both", text("alike", 3, w), UNKNOWN, x -> x.alike(3, w));
            refused(11, "UNKNOWN: both", text("alike", w, w), UNKNOWN, x -> x.alike(w, w));
        }
    }

    private static void best() {
        int[][] outside = {{0, 0}, {100, 0}, {0, 1}, {100, 1}, {1, -1}, {1, 2}, {99, -1}, {99, 2}, {0, 2}, {100, -1},
            {-1, 0}, {LOW, 0}, {HIGH, 0}, {4, LOW}, {4, HIGH}};
        for (int[] a : outside) {
            refused(12, "if SIZE were s, 1 to 99; OUTSIDE: both", text("best", a), OUTSIDE, x -> x.best(a[0], a[1]));
        }
    }

    private static void from() {
        for (int w : NO_WAY) {
            refused(13, "UNKNOWN: both", text("from", w, 0), UNKNOWN, x -> x.from(w, 0));
            refused(13, "UNKNOWN: both", text("from", 3, w), UNKNOWN, x -> x.from(3, w));
            refused(13, "NONE only where no refusal fits", text("from", w, w), UNKNOWN, x -> x.from(w, w));
        }
        for (int w = 0; w < 4; w++) {
            int way = w;
            refused(13, "NONE: there is none", text("from", w, w), NONE, x -> x.from(way, way));
        }
    }

    private static void lost() {
        for (int w : NO_WAY) {
            refused(14, "UNKNOWN", text("lost", w), UNKNOWN, x -> x.lost(w, 0, 0));
            refused(14, "UNKNOWN, then OUTSIDE", text("lost", w, 0, 2), UNKNOWN, x -> x.lost(w, 0, 2));
            refused(14, "NONE only where no refusal fits", text("lost", w, -1, 0), UNKNOWN, x -> x.lost(w, -1, 0));
        }
        for (int w = 0; w < 4; w++) {
            int way = w;
            for (int what : new int[] {-1, 2, LOW, HIGH}) {
                refused(14, "OUTSIDE: what", text("lost", w, 0, what), OUTSIDE, x -> x.lost(way, 0, what));
                refused(14, "NONE only where no refusal fits", text("lost", w, LETTERS[w], what), OUTSIDE,
                    x -> x.lost(way, LETTERS[way], what));
                refused(14, "NONE only where no refusal fits", text("lost", w, -1, what), OUTSIDE,
                    x -> x.lost(way, -1, what));
            }
            for (int k : new int[] {-1, LETTERS[w], LOW, HIGH}) {
                refused(14, "NONE: there is no such LETTER", text("lost", w, k, 0), NONE, x -> x.lost(way, k, 0));
                refused(14, "NONE: there is no such LETTER", text("lost", w, k, 1), NONE, x -> x.lost(way, k, 1));
            }
        }
    }

    private static void worst() {
        for (int w : NO_WAY) {
            refused(15, "UNKNOWN", text("worst", w), UNKNOWN, x -> x.worst(w, 0));
            refused(15, "UNKNOWN, then OUTSIDE", text("worst", w, 3), UNKNOWN, x -> x.worst(w, 3));
            refused(15, "UNKNOWN, then OUTSIDE", text("worst", w, -1), UNKNOWN, x -> x.worst(w, -1));
        }
        for (int what : new int[] {-1, 3, LOW, HIGH}) {
            refused(15, "OUTSIDE", text("worst", 0, what), OUTSIDE, x -> x.worst(0, what));
            refused(15, "OUTSIDE", text("worst", 3, what), OUTSIDE, x -> x.worst(3, what));
        }
    }

    private static void comes() {
        for (int w : NO_WAY) {
            refused(16, "UNKNOWN: WAY", text("comes", w), UNKNOWN, x -> x.comes(w, 0, 0, 0));
            refused(16, "UNKNOWN, then OUTSIDE", text("comes place", w), UNKNOWN, x -> x.comes(w, 0, SIZE, 0));
            refused(16, "UNKNOWN, then OUTSIDE", text("comes what", w), UNKNOWN, x -> x.comes(w, 0, 0, 2));
        }
        for (int m : NO_MACHINE) {
            refused(16, "UNKNOWN: MACHINE", text("comes", m), UNKNOWN, x -> x.comes(3, m, 0, 0));
            refused(16, "UNKNOWN, then OUTSIDE", text("comes place", m), UNKNOWN, x -> x.comes(3, m, -1, 0));
            refused(16, "UNKNOWN, then OUTSIDE", text("comes what", m), UNKNOWN, x -> x.comes(3, m, 0, -1));
        }
        for (int w = 0; w < 4; w++) {
            int way = w;
            for (int p : NO_PLACE) {
                refused(16, "OUTSIDE: the PLACE", text("comes", w, 0, p, 0), OUTSIDE, x -> x.comes(way, 0, p, 0));
                refused(16, "OUTSIDE: the PLACE", text("comes", w, 3, p, 1), OUTSIDE, x -> x.comes(way, 3, p, 1));
            }
            for (int what : new int[] {-1, 2, LOW, HIGH}) {
                refused(16, "OUTSIDE: what", text("comes", w, 0, 0, what), OUTSIDE, x -> x.comes(way, 0, 0, what));
            }
        }
    }

    private static void image() {
        // 32, 33 and -32 would be bits 0, 1 and 0, as a shift leaves them over by 32.
        for (int k : new int[] {-1, 2, 3, 32, 33, -32, LOW, HIGH}) {
            refused(17, "an IMAGE (0, 1)", text("image", k), OUTSIDE, x -> x.image(k));
        }
        SumsForAll bare = new SumsForAll();
        bare.image(-1);
        bare.image(2);
        Check.due(17, "what is refused changes nothing", "count(6)", bare.count(6), 0);
    }

    private static void restore() {
        for (int k : new int[] {-1, 2, 3, 32, 33, -32, LOW, HIGH}) {
            refused(18, "OUTSIDE", text("restore", k), OUTSIDE, x -> x.restore(k));
            Check.due(18, "OUTSIDE, then STATE", text("restore", k), new SumsForAll().restore(k), OUTSIDE);
        }
        for (int k = 0; k < 2; k++) {
            Check.due(18, "nothing was kept in it", text("restore", k), new SumsForAll().restore(k), STATE);
            nothingIsKeptIn(k);
        }
    }

    private static void nothingIsKeptIn(int k) {
        SumsForAll x = new SumsForAll();
        fill(x, MANY, SIZE, 300);
        x.image(1 - k);
        SumsForAll y = new SumsForAll();
        fill(y, MANY, SIZE, 300);
        y.image(1 - k);
        Check.due(18, "nothing was kept in it", text("restore", k) + " with the other one", x.restore(k), STATE);
        boolean same = Seen.withImages(x).equals(Seen.withImages(y));
        Check.due(18, "what is refused changes nothing", text("restore", k), same ? 1 : 0, 1);
    }

    private static void count() {
        for (int what : new int[] {-1, 7, LOW, HIGH}) {
            refused(19, "OUTSIDE", text("count", what), OUTSIDE, x -> x.count(what));
        }
    }
}
