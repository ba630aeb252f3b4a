import java.util.Random;

/** Runs of calls, right and wrong ones, on the class and on the model side by side. */
public final class AgainstModel {
    private static final int CALLS = 512;
    private static final int LETTERS_AT_ONCE = 40;

    private AgainstModel() {
    }

    public static void main(String[] args) {
        for (int many = 2; many <= 9; many++) {
            for (int size = 1; size <= 12; size++) {
                everyAnswer(many, size);
            }
        }
        for (int seed = 1; seed <= 120 && Check.allAsDue(); seed++) {
            new Run(new Random(seed), "seed " + seed).play(CALLS);
        }
        Check.finish();
    }

    /** An object is used for at most 512 calls, so some letters, and the numbers of a machine, have an object each. */
    private static void everyAnswer(int many, int size) {
        for (int w = 0; w < 4; w++) {
            Run ways = filled(many, size);
            ways.everyWhat(w);
            int letters = ways.lettersOf(w);
            for (int k = -1; k <= letters; k += LETTERS_AT_ONCE) {
                filled(many, size).everyLetter(w, k, Math.min(letters, k + LETTERS_AT_ONCE - 1));
            }
            for (int m = 0; m < many; m++) {
                filled(many, size).everyNumber(w, m, size);
            }
        }
    }

    private static Run filled(int many, int size) {
        Run run = new Run(new Random(many * 100 + size), "many " + many + " size " + size);
        run.fill(many, size);
        return run;
    }

    private static final class Run {
        private final SumsForAll x = new SumsForAll();
        private final Model y = new Model();
        private final Random random;
        private final String name;

        Run(Random random, String name) {
            this.random = random;
            this.name = name;
        }

        void play(int calls) {
            for (int i = 0; i < calls; i++) {
                call(random.nextInt(26));
            }
        }

        void fill(int many, int size) {
            due("machines", x.machines(many, size), y.machines(many, size));
            int op = (many + size) % 3;
            due("rule", x.rule(0, op), y.rule(0, op));
            for (int m = 0; m < many; m++) {
                for (int p = 0; p < size; p++) {
                    int v = random.nextInt(997);
                    due("put", x.put(m, p, v), y.put(m, p, v));
                }
                int to = (m + 1 + random.nextInt(many - 1)) % many;
                int slow = 1 + random.nextInt(9);
                due("slow", x.slow(m, to, slow), y.slow(m, to, slow));
            }
        }

        int lettersOf(int w) {
            return y.way(w, 1);
        }

        void everyWhat(int w) {
            for (int what = 0; what < 6; what++) {
                due("way " + w + " " + what, x.way(w, what), y.way(w, what));
            }
        }

        void everyLetter(int w, int first, int last) {
            for (int k = first; k <= last; k++) {
                for (int what = 0; what < 7; what++) {
                    due("letter " + w + " " + k + " " + what, x.letter(w, k, what), y.letter(w, k, what));
                }
            }
        }

        void everyNumber(int w, int m, int size) {
            for (int p = 0; p < size; p++) {
                String call = " " + w + " machine " + m + " place " + p;
                due("comes 0" + call, x.comes(w, m, p, 0), y.comes(w, m, p, 0));
                due("comes 1" + call, x.comes(w, m, p, 1), y.comes(w, m, p, 1));
                for (int r = 0; r <= y.way(w, 0) + 1; r++) {
                    due("behind " + r + call, x.behind(w, r, m, p), y.behind(w, r, m, p));
                }
            }
        }

        private void call(int which) {
            switch (which) {
                case 0: if (random.nextInt(6) == 0) machines(upTo(9), upTo(12)); break;
                case 1: rule(upTo(2), upTo(2)); break;
                case 2: rule(1 + random.nextInt(2), upTo(99)); break;
                case 3: case 4: slow(machine(), machine(), upTo(9)); break;
                case 5: at(machine(), place()); break;
                case 6: case 7: askWay(upTo(3), upTo(5)); break;
                case 8: case 9: letter(upTo(3), letterNumber(), upTo(6)); break;
                case 10: case 11: behind(upTo(3), upTo(17), machine(), place()); break;
                case 12: same(upTo(3), upTo(1)); break;
                case 13: alike(upTo(3), upTo(3)); break;
                case 14: best(upTo(99), upTo(1)); break;
                case 15: if (random.nextInt(4) == 0) from(upTo(3), upTo(3)); break;
                case 16: case 17: lost(upTo(3), letterNumber(), upTo(1)); break;
                case 18: if (random.nextInt(4) == 0) worst(upTo(3), upTo(2)); break;
                case 19: comes(upTo(3), machine(), place(), upTo(1)); break;
                case 20: image(upTo(1)); break;
                case 21: restore(upTo(1)); break;
                case 22: count(upTo(6)); break;
                default: put(machine(), place(), random.nextInt(3) == 0 ? upTo(996) : upTo(9)); break;
            }
        }

        /** Most often 0 to most; now and then one beside it, or a far one. */
        private int upTo(int most) {
            int die = random.nextInt(40);
            if (die == 0) return -1;
            if (die == 1) return most + 1;
            if (die == 2) return random.nextInt();
            if (die == 3) return random.nextBoolean() ? Integer.MAX_VALUE : Integer.MIN_VALUE;
            return random.nextInt(most + 1);
        }

        private int machine() {
            return upTo(y.count(0) - 1);
        }

        private int place() {
            return upTo(y.count(1) - 1);
        }

        private int letterNumber() {
            return upTo(random.nextBoolean() ? 20 : 143);
        }

        private void due(String call, int got, int want) {
            Check.due(name + ": " + call, got, want);
        }

        private void due(String call, int got, int want, int... args) {
            Check.due(name + ": " + call + " " + java.util.Arrays.toString(args), got, want);
        }

        private void machines(int a, int b) {
            due("machines", x.machines(a, b), y.machines(a, b), a, b);
        }

        private void put(int a, int b, int c) {
            due("put", x.put(a, b, c), y.put(a, b, c), a, b, c);
        }

        private void rule(int a, int b) {
            due("rule", x.rule(a, b), y.rule(a, b), a, b);
        }

        private void slow(int a, int b, int c) {
            due("slow", x.slow(a, b, c), y.slow(a, b, c), a, b, c);
        }

        private void at(int a, int b) {
            due("at", x.at(a, b), y.at(a, b), a, b);
        }

        private void askWay(int a, int b) {
            due("way", x.way(a, b), y.way(a, b), a, b);
        }

        private void letter(int a, int b, int c) {
            due("letter", x.letter(a, b, c), y.letter(a, b, c), a, b, c);
        }

        private void behind(int a, int b, int c, int d) {
            due("behind", x.behind(a, b, c, d), y.behind(a, b, c, d), a, b, c, d);
        }

        private void same(int a, int b) {
            due("same", x.same(a, b), y.same(a, b), a, b);
        }

        private void alike(int a, int b) {
            due("alike", x.alike(a, b), y.alike(a, b), a, b);
        }

        private void best(int a, int b) {
            due("best", x.best(a, b), y.best(a, b), a, b);
        }

        private void from(int a, int b) {
            due("from", x.from(a, b), y.from(a, b), a, b);
        }

        private void lost(int a, int b, int c) {
            due("lost", x.lost(a, b, c), y.lost(a, b, c), a, b, c);
        }

        private void worst(int a, int b) {
            due("worst", x.worst(a, b), y.worst(a, b), a, b);
        }

        private void comes(int a, int b, int c, int d) {
            due("comes", x.comes(a, b, c, d), y.comes(a, b, c, d), a, b, c, d);
        }

        private void image(int a) {
            due("image", x.image(a), y.image(a), a);
        }

        private void restore(int a) {
            due("restore", x.restore(a), y.restore(a), a);
        }

        private void count(int a) {
            due("count", x.count(a), y.count(a), a);
        }
    }
}
