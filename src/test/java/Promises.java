/** Answers reckoned by hand from the document's words, promise by promise. */
public final class Promises {
    private static final int LOW = Integer.MIN_VALUE, HIGH = Integer.MAX_VALUE;

    private Promises() {
    }

    public static void main(String[] args) {
        promise1();
        promise2();
        promise3();
        promise4();
        promise5();
        promise6();
        promise7();
        promise8();
        promise9();
        promise10();
        promise11();
        promise12();
        promise13();
        promise14();
        promise15();
        promise16();
        promises17And18();
        promise19();
        Check.finish();
    }

    private static void due(int promise, String call, int got, int want) {
        Check.due("promise " + promise + ": " + call, got, want);
    }

    private static SumsForAll with(int many, int size) {
        SumsForAll x = new SumsForAll();
        x.machines(many, size);
        return x;
    }

    private static void promise1() {
        SumsForAll x = new SumsForAll();
        int[] counts = {4, 4, 0, 5, 1, 0, 0};
        for (int what = 0; what < counts.length; what++) {
            due(1, "count " + what, x.count(what), counts[what]);
        }
        for (int m = 0; m < 4; m++) {
            for (int p = 0; p < 4; p++) {
                due(1, "at", x.at(m, p), 0);
            }
        }
        due(1, "restore(0)", x.restore(0), SumsForAll.STATE);
        due(1, "restore(1)", x.restore(1), SumsForAll.STATE);
        for (int one = 0; one < 4; one++) {
            for (int two = one + 1; two < 4; two++) {
                due(1, "slow", x.slow(one, two, 1), 1);
            }
        }
    }

    private static void promise2() {
        SumsForAll x = new SumsForAll();
        x.put(1, 1, 7);
        x.slow(0, 1, 8);
        x.rule(0, 2);
        x.rule(1, 44);
        x.rule(2, 33);
        int[][] outside = {{1, 4}, {10, 4}, {4, 0}, {4, 13}, {LOW, 4}, {HIGH, 4}, {4, LOW}, {4, HIGH}, {0, 0}};
        for (int[] a : outside) {
            due(2, "machines outside", x.machines(a[0], a[1]), SumsForAll.OUTSIDE);
        }
        due(2, "refused: number stays", x.at(1, 1), 7);
        due(2, "refused: size stays", x.count(1), 4);
        due(2, "as it is", x.machines(4, 4), 4);
        due(2, "numbers are 0", x.at(1, 1), 0);
        due(2, "slows are 1", x.slow(0, 1, 5), 1);
        due(2, "least", x.machines(2, 1), 4);
        due(2, "most", x.machines(9, 12), 2);
        due(2, "slows are 1", x.slow(0, 1, 1), 1);
        due(2, "many", x.count(0), 9);
        due(2, "size", x.count(1), 12);
        due(2, "OP stays", x.count(2), 2);
        due(2, "START stays", x.count(3), 44);
        due(2, "EACH stays", x.count(4), 33);
        due(2, "numbers that come back are 0", x.count(5), 0);
    }

    private static void promise3() {
        SumsForAll x = with(3, 2);
        due(3, "put", x.put(2, 1, 996), 0);
        due(3, "put again", x.put(2, 1, 0), 996);
        due(3, "put 5", x.put(2, 1, 5), 0);
        due(3, "UNKNOWN", x.put(3, 0, 0), SumsForAll.UNKNOWN);
        due(3, "UNKNOWN", x.put(-1, 0, 0), SumsForAll.UNKNOWN);
        due(3, "UNKNOWN goes first", x.put(HIGH, LOW, LOW), SumsForAll.UNKNOWN);
        due(3, "place", x.put(0, 2, 0), SumsForAll.OUTSIDE);
        due(3, "place", x.put(0, -1, 0), SumsForAll.OUTSIDE);
        due(3, "v", x.put(2, 1, 997), SumsForAll.OUTSIDE);
        due(3, "v", x.put(2, 1, -1), SumsForAll.OUTSIDE);
        due(3, "only that one", x.count(5), 5);
    }

    private static void promise4() {
        SumsForAll x = new SumsForAll();
        due(4, "OP", x.rule(0, 2), 0);
        due(4, "OP", x.rule(0, 1), 2);
        due(4, "START", x.rule(1, 99), 5);
        due(4, "START", x.rule(1, 0), 99);
        due(4, "EACH", x.rule(2, 99), 1);
        due(4, "EACH", x.rule(2, 0), 99);
        int[][] outside = {{0, 3}, {0, -1}, {1, 100}, {1, -1}, {2, 100}, {2, -1}, {3, 0}, {-1, 0}, {LOW, LOW}};
        for (int[] a : outside) {
            due(4, "outside", x.rule(a[0], a[1]), SumsForAll.OUTSIDE);
        }
        due(4, "OP stays", x.count(2), 1);
        due(4, "START stays", x.count(3), 0);
        due(4, "EACH stays", x.count(4), 0);
    }

    private static void promise5() {
        SumsForAll x = with(9, 1);
        due(5, "slow", x.slow(0, 8, 9), 1);
        due(5, "both ways", x.slow(8, 0, 2), 9);
        due(5, "another line", x.slow(0, 7, 1), 1);
        due(5, "UNKNOWN", x.slow(9, 0, 1), SumsForAll.UNKNOWN);
        due(5, "UNKNOWN", x.slow(0, 9, 1), SumsForAll.UNKNOWN);
        due(5, "UNKNOWN", x.slow(-1, 0, 1), SumsForAll.UNKNOWN);
        due(5, "UNKNOWN goes first, of one machine too", x.slow(9, 9, 0), SumsForAll.UNKNOWN);
        due(5, "they are one", x.slow(3, 3, 1), SumsForAll.OUTSIDE);
        due(5, "v", x.slow(0, 8, 0), SumsForAll.OUTSIDE);
        due(5, "v", x.slow(0, 8, 10), SumsForAll.OUTSIDE);
        due(5, "refused: stays", x.slow(0, 8, 1), 2);
    }

    private static void promise6() {
        SumsForAll x = with(2, 3);
        x.put(1, 2, 77);
        due(6, "at", x.at(1, 2), 77);
        due(6, "at", x.at(0, 2), 0);
        due(6, "no place", x.at(1, 3), SumsForAll.NONE);
        due(6, "no place", x.at(1, -1), SumsForAll.NONE);
        due(6, "no machine", x.at(2, 0), SumsForAll.UNKNOWN);
        due(6, "no machine goes first", x.at(-1, 3), SumsForAll.UNKNOWN);
    }

    private static void promise7() {
        SumsForAll x = new SumsForAll();
        // Of 4 machines and 4 numbers. Ring: each sends 1 and gets 1, for 6 each, in 6 rounds.
        // Halves: 2, 1, 1, 2 numbers. Tree: 3 to 1, then 1 and 2 to 0, and back. Each: 3 to 0, and back.
        int[][] due = {{6, 24, 24, 72, 0, 0}, {4, 16, 24, 52, 0, 0}, {4, 6, 24, 54, 1, 0}, {2, 6, 24, 54, 0, 0}};
        for (int w = 0; w < 4; w++) {
            for (int what = 0; what < 6; what++) {
                due(7, "way " + w + " " + what, x.way(w, what), due[w][what]);
            }
        }
        allFree();
        x.slow(1, 3, 9);
        due(7, "the slow line of the tree", x.way(2, 3), 2 * 9 * 9 + 2 * 18);
        due(7, "round 0 is longest then", x.way(2, 4), 0);
        due(7, "machine 1 is busiest then", x.way(2, 5), 1);
        due(7, "UNKNOWN", x.way(4, 0), SumsForAll.UNKNOWN);
        due(7, "UNKNOWN goes first", x.way(-1, 6), SumsForAll.UNKNOWN);
        due(7, "OUTSIDE", x.way(0, 6), SumsForAll.OUTSIDE);
        due(7, "OUTSIDE", x.way(0, -1), SumsForAll.OUTSIDE);
        waysOfAllSizes();
    }

    private static void allFree() {
        SumsForAll x = new SumsForAll();
        due(7, "before", x.way(2, 4), 1);
        x.rule(1, 0);
        x.rule(2, 0);
        due(7, "all free", x.way(2, 3), 0);
        due(7, "all free: first round", x.way(2, 4), 0);
        due(7, "all free: least machine", x.way(2, 5), 0);
    }

    private static void waysOfAllSizes() {
        int[] rounds = {2, 2, 4, 4, 4, 4, 6, 6};
        int[] halves = {2, 4, 4, 6, 6, 6, 6, 8};
        for (int many = 2; many <= 9; many++) {
            SumsForAll x = with(many, 1);
            due(7, "rounds of the ring", x.way(0, 0), 2 * (many - 1));
            due(7, "rounds of halves", x.way(1, 0), halves[many - 2]);
            due(7, "rounds of the tree", x.way(2, 0), rounds[many - 2]);
            due(7, "rounds of each", x.way(3, 0), 2);
            due(7, "letters of the ring", x.way(0, 1), 2 * (many - 1) * many);
            due(7, "letters of the tree", x.way(2, 1), 2 * (many - 1));
            due(7, "letters of each", x.way(3, 1), 2 * (many - 1));
        }
    }

    private static void dueLetter(SumsForAll x, int way, int k, int... told) {
        for (int what = 0; what < told.length; what++) {
            due(8, "letter " + way + " " + k + " " + what, x.letter(way, k, what), told[what]);
        }
    }

    private static void promise8() {
        SumsForAll x = with(3, 4);
        x.slow(2, 0, 3);
        // Parts of 3: places 0, 1, and 2 with 3.
        dueLetter(x, 0, 0, 0, 0, 1, 0, 1, 1, 6);
        dueLetter(x, 0, 2, 0, 2, 0, 2, 2, 1, 21);
        dueLetter(x, 0, 3, 1, 0, 1, 2, 2, 1, 7);
        dueLetter(x, 0, 6, 2, 0, 1, 1, 1, 2, 6);
        dueLetter(x, 0, 8, 2, 2, 0, 0, 1, 2, 18);
        dueLetter(x, 0, 11, 3, 2, 0, 2, 2, 2, 21);
        due(8, "behind the last", x.letter(0, 12, 0), SumsForAll.NONE);
        dueLetter(x, 1, 0, 0, 2, 0, 0, 4, 0, 27);
        dueLetter(x, 1, 1, 1, 0, 1, 2, 2, 1, 7);
        dueLetter(x, 1, 2, 1, 1, 0, 0, 2, 0, 7);
        dueLetter(x, 1, 3, 2, 0, 1, 0, 2, 2, 7);
        dueLetter(x, 1, 4, 2, 1, 0, 2, 2, 2, 7);
        dueLetter(x, 1, 5, 3, 0, 2, 0, 4, 2, 27);
        due(8, "behind the last", x.letter(1, 6, 0), SumsForAll.NONE);
        dueLetter(x, 2, 1, 0, 2, 0, 0, 4, 0, 27);
        dueLetter(x, 2, 3, 1, 0, 2, 0, 4, 2, 27);
        dueLetter(x, 3, 0, 0, 1, 0, 0, 4, 0, 9);
        dueLetter(x, 3, 2, 1, 0, 1, 0, 4, 2, 9);
        due(8, "NONE", x.letter(3, 4, 0), SumsForAll.NONE);
        due(8, "NONE", x.letter(3, -1, 6), SumsForAll.NONE);
        due(8, "NONE", x.letter(3, LOW, 6), SumsForAll.NONE);
        due(8, "OUTSIDE goes before NONE", x.letter(3, HIGH, 7), SumsForAll.OUTSIDE);
        due(8, "OUTSIDE", x.letter(3, 0, -1), SumsForAll.OUTSIDE);
        due(8, "UNKNOWN goes first", x.letter(4, HIGH, 7), SumsForAll.UNKNOWN);
        due(8, "UNKNOWN", x.letter(-1, 0, 0), SumsForAll.UNKNOWN);
        emptySpans();
    }

    private static void emptySpans() {
        SumsForAll x = with(8, 3);
        // Part 4 of 8 is from 12 by 8 to 15 by 8: from 1, none.
        dueLetter(x, 0, 4, 0, 4, 5, 1, 0, 1, 5);
        // Machine 0 keeps 0 with 1, then 0 with none; machine 2 the place 0; 4 the place 1, 6 the place 2.
        dueLetter(x, 1, 8, 1, 0, 2, 0, 1, 1, 6);
        dueLetter(x, 1, 10, 1, 2, 0, 0, 0, 0, 5);
        dueLetter(x, 1, 12, 1, 4, 6, 2, 1, 1, 6);
        dueLetter(x, 1, 16, 2, 0, 1, 0, 0, 1, 5);
        dueLetter(x, 1, 22, 2, 6, 7, 2, 1, 1, 6);
        // Doubled: machine 6 has none of place 2, 7 has it; together they have it.
        dueLetter(x, 1, 30, 3, 6, 7, 2, 0, 2, 5);
        dueLetter(x, 1, 31, 3, 7, 6, 2, 1, 2, 6);
        dueLetter(x, 1, 38, 4, 6, 4, 2, 1, 2, 6);
        dueLetter(x, 1, 46, 5, 6, 2, 1, 2, 2, 7);
        dueLetter(x, 1, 40, 5, 0, 4, 0, 1, 2, 6);
    }

    private static void promise9() {
        SumsForAll x = with(3, 1);
        x.rule(0, 2);
        x.put(0, 0, 1);
        x.put(1, 0, 2);
        x.put(2, 0, 3);
        // Only part 2 has a number: from 2 to 0 (31 times 3, and 1), from 0 to 1 (31 times 94, and 2, less 2 times 997).
        due(9, "at first", x.behind(0, 0, 0, 0), 1);
        due(9, "ring, 1", x.behind(0, 1, 0, 0), 94);
        due(9, "ring, 1, not yet", x.behind(0, 1, 1, 0), 2);
        due(9, "ring, 2", x.behind(0, 2, 1, 0), 922);
        due(9, "ring, 3", x.behind(0, 3, 2, 0), 922);
        due(9, "ring, 3, not yet", x.behind(0, 3, 0, 0), 94);
        due(9, "ring, 4", x.behind(0, 4, 0, 0), 922);
        due(9, "ring, beyond", x.behind(0, HIGH, 0, 0), 922);
        // Halves: 2 into 0: 31 times 1, and 3. Machine 1 keeps the number: 31 times 34, and 2, less 997.
        due(9, "halves, 1", x.behind(1, 1, 0, 0), 34);
        due(9, "halves, 2", x.behind(1, 2, 1, 0), 59);
        due(9, "halves, 2, not kept", x.behind(1, 2, 0, 0), 34);
        due(9, "halves, 3", x.behind(1, 3, 0, 0), 59);
        due(9, "halves, 3, not yet", x.behind(1, 3, 2, 0), 3);
        due(9, "halves, 4", x.behind(1, 4, 2, 0), 59);
        // Tree and each: 1 first, then 2 into 0: 31 times 33, and 3, less 997.
        due(9, "tree, 1", x.behind(2, 1, 0, 0), 29);
        due(9, "tree, 1, not yet", x.behind(2, 1, 2, 0), 3);
        due(9, "tree, 2", x.behind(2, 2, 2, 0), 29);
        due(9, "each, 2", x.behind(3, 2, 1, 0), 29);
        due(9, "asking changes nothing", x.at(0, 0), 1);
        due(9, "NONE", x.behind(0, 0, 0, 1), SumsForAll.NONE);
        due(9, "NONE", x.behind(0, 0, 0, -1), SumsForAll.NONE);
        due(9, "OUTSIDE goes before NONE", x.behind(0, -1, 0, 1), SumsForAll.OUTSIDE);
        due(9, "OUTSIDE", x.behind(0, LOW, 0, 0), SumsForAll.OUTSIDE);
        due(9, "UNKNOWN way", x.behind(4, -1, 0, 1), SumsForAll.UNKNOWN);
        due(9, "UNKNOWN machine", x.behind(0, -1, 3, 1), SumsForAll.UNKNOWN);
        mixedByEachOp();
    }

    private static void mixedByEachOp() {
        SumsForAll x = with(2, 1);
        x.put(0, 0, 996);
        x.put(1, 0, 995);
        due(9, "added", x.behind(3, 1, 0, 0), 994);
        x.rule(0, 1);
        due(9, "the greater one", x.behind(3, 1, 0, 0), 996);
        due(9, "the greater one comes", x.behind(3, 2, 1, 0), 996);
        x.rule(0, 2);
        // 31 times 996 and 995 is 31871, which is 31 times 997 and 964.
        due(9, "31 times", x.behind(3, 1, 0, 0), 964);
    }

    private static void promise10() {
        SumsForAll x = with(3, 2);
        x.rule(0, 2);
        x.put(0, 0, 1);
        x.put(1, 1, 1);
        for (int w = 0; w < 4; w++) {
            due(10, "all the same " + w, x.same(w, 0), 1);
        }
        // By rising machines: 961 at 0, 31 at 1. Place 0 is in part 1, so 1, 2, 0: 1; place 1 in part 2, so 2, 0, 1: 1.
        due(10, "ring", x.same(0, 1), 0);
        // Halves: 0, 2, 1: 961 at 0, but 1 at 1. Tree and each: 0, 1, 2.
        due(10, "halves", x.same(1, 1), 1);
        due(10, "tree", x.same(2, 1), 2);
        due(10, "each", x.same(3, 1), 2);
        x.rule(0, 0);
        due(10, "ring, added", x.same(0, 1), 2);
        due(10, "UNKNOWN", x.same(4, 0), SumsForAll.UNKNOWN);
        due(10, "UNKNOWN goes first", x.same(-1, 2), SumsForAll.UNKNOWN);
        due(10, "OUTSIDE", x.same(0, 2), SumsForAll.OUTSIDE);
        due(10, "OUTSIDE", x.same(0, -1), SumsForAll.OUTSIDE);
    }

    private static void promise11() {
        SumsForAll x = with(3, 2);
        x.rule(0, 2);
        x.put(1, 1, 1);
        // Place 1: the ring has 2, 0, 1: 1; halves 0, 2, 1: 1; tree and each 31.
        due(11, "ring, halves", x.alike(0, 1), 1);
        due(11, "ring, tree", x.alike(0, 2), 0);
        due(11, "tree, ring", x.alike(2, 0), 0);
        due(11, "tree, each", x.alike(2, 3), 1);
        due(11, "one", x.alike(2, 2), 1);
        x.rule(0, 1);
        due(11, "the greater one", x.alike(0, 2), 1);
        due(11, "UNKNOWN", x.alike(4, 0), SumsForAll.UNKNOWN);
        due(11, "UNKNOWN", x.alike(0, 4), SumsForAll.UNKNOWN);
        due(11, "UNKNOWN", x.alike(-1, -1), SumsForAll.UNKNOWN);
    }

    private static void promise12() {
        SumsForAll x = with(2, 1);
        // Two machines: ring and halves: two rounds of two letters, tree and each: two rounds of one.
        due(12, "best of 1", x.best(1, 0), 2);
        due(12, "its time", x.best(1, 1), 12);
        x.rule(1, 0);
        // Without START all need twice the size; the first is the ring.
        due(12, "all the same: the first", x.best(4, 0), 0);
        due(12, "its time", x.best(4, 1), 8);
        due(12, "most", x.best(99, 1), 198);
        due(12, "size stays", x.count(1), 1);
        x.slow(0, 1, 9);
        due(12, "slow", x.best(99, 1), 1782);
        due(12, "OUTSIDE", x.best(0, 0), SumsForAll.OUTSIDE);
        due(12, "OUTSIDE", x.best(100, 0), SumsForAll.OUTSIDE);
        due(12, "OUTSIDE", x.best(LOW, 0), SumsForAll.OUTSIDE);
        due(12, "OUTSIDE", x.best(1, 2), SumsForAll.OUTSIDE);
        due(12, "OUTSIDE", x.best(1, -1), SumsForAll.OUTSIDE);
    }

    private static void promise13() {
        SumsForAll x = new SumsForAll();
        // Four machines. Halves and each: 40 and 2 times (half, rest, quarters) against 2 times 3 times (5 and s).
        // s = 1: halves 4 rounds of 10 and 1: 44 against 36. s = 2: rounds 12, 11, 11, 12: 46 against 42.
        // s = 3: rounds 13, 12, 12, 13: 50 against 48. s = 4: 52 against 54.
        due(13, "halves before each", x.from(1, 3), 4);
        due(13, "each before halves", x.from(3, 1), 1);
        due(13, "one way", x.from(2, 2), SumsForAll.NONE);
        x.rule(2, 0);
        due(13, "numbers are free", x.from(1, 3), SumsForAll.NONE);
        x.rule(1, 0);
        due(13, "all is free", x.from(3, 1), SumsForAll.NONE);
        due(13, "size stays", x.count(1), 4);
        fromTheLastSize();
        due(13, "UNKNOWN", x.from(4, 0), SumsForAll.UNKNOWN);
        due(13, "UNKNOWN", x.from(0, 4), SumsForAll.UNKNOWN);
        due(13, "UNKNOWN", x.from(-1, HIGH), SumsForAll.UNKNOWN);
    }

    /** Three machines: ring 4 times (2 START and two parts), each 4 times (START and s). */
    private static void fromTheLastSize() {
        SumsForAll x = with(3, 1);
        // s = 98: 64 and 33 and 33 against 32 and 98: the same. s = 99: 64 and 66 against 131.
        x.rule(1, 32);
        due(13, "the last size", x.from(0, 3), 99);
        x.rule(1, 33);
        due(13, "no size any more", x.from(0, 3), SumsForAll.NONE);
    }

    private static void promise14() {
        SumsForAll x = with(3, 2);
        x.put(1, 0, 2);
        x.put(1, 1, 20);
        x.put(2, 1, 30);
        // Each: what 1 sends is missed by all at both places, what 2 sends at one.
        due(14, "set", x.lost(3, 0, 0), 7);
        due(14, "numbers", x.lost(3, 0, 1), 6);
        due(14, "numbers", x.lost(3, 1, 1), 3);
        // Without 0's letter machine 2 keeps 0, 30 where 2, 50 are due; 1 keeps 2, 20.
        due(14, "set", x.lost(3, 3, 0), 4);
        due(14, "numbers", x.lost(3, 3, 1), 2);
        due(14, "set", x.lost(3, 2, 0), 2);
        due(14, "numbers", x.lost(3, 2, 1), 1);
        due(14, "asking changes nothing", x.count(5), 52);
        due(14, "NONE", x.lost(3, 4, 0), SumsForAll.NONE);
        due(14, "NONE", x.lost(3, -1, 0), SumsForAll.NONE);
        due(14, "OUTSIDE goes before NONE", x.lost(3, 4, 2), SumsForAll.OUTSIDE);
        due(14, "OUTSIDE", x.lost(3, 0, -1), SumsForAll.OUTSIDE);
        due(14, "UNKNOWN goes first", x.lost(4, 4, 2), SumsForAll.UNKNOWN);
        due(14, "UNKNOWN", x.lost(-1, 0, 0), SumsForAll.UNKNOWN);
    }

    private static void promise15() {
        SumsForAll x = with(3, 2);
        due(15, "no harm: the first", x.worst(3, 0), 0);
        due(15, "no harm", x.worst(3, 1), 0);
        due(15, "no harm by any", x.worst(3, 2), 4);
        x.put(2, 1, 30);
        // Each: 1's letter brings nothing new, 2's is missed by all, 0's by 1 alone, as 2 has 30 already.
        due(15, "worst", x.worst(3, 0), 1);
        due(15, "numbers", x.worst(3, 1), 3);
        due(15, "no harm by 1's and by 0's to 2", x.worst(3, 2), 2);
        x.put(1, 1, 5);
        due(15, "of equals the first", x.worst(3, 0), 0);
        due(15, "none is without harm", x.worst(3, 2), 0);
        due(15, "UNKNOWN", x.worst(4, 3), SumsForAll.UNKNOWN);
        due(15, "UNKNOWN", x.worst(-1, 0), SumsForAll.UNKNOWN);
        due(15, "OUTSIDE", x.worst(0, 3), SumsForAll.OUTSIDE);
        due(15, "OUTSIDE", x.worst(0, -1), SumsForAll.OUTSIDE);
    }

    private static void promise16() {
        SumsForAll x = with(5, 2);
        due(16, "each, to 0", x.comes(3, 0, 1, 0), 4);
        due(16, "each, to 0", x.comes(3, 0, 1, 1), 0);
        due(16, "each, to 4", x.comes(3, 4, 0, 1), 1);
        due(16, "tree, to 1", x.comes(2, 1, 0, 0), 2);
        due(16, "tree, to 1", x.comes(2, 1, 0, 1), 1);
        // Halves: 4 sends 0 all; 2 sends 0 place 0; 1 sends 0 none; back: 1 sends place 0, 2 sends place 1.
        due(16, "halves, to 0", x.comes(1, 0, 0, 0), 2);
        due(16, "halves, to 0", x.comes(1, 0, 1, 0), 1);
        due(16, "halves, to 0", x.comes(1, 0, 0, 1), 1);
        due(16, "halves, to 0", x.comes(1, 0, 1, 1), 1);
        // Ring: place 1 is part 4, which goes from 4 around to 3, and then from 3 around to 2.
        due(16, "ring, to 4", x.comes(0, 4, 1, 0), 0);
        due(16, "ring, to 3", x.comes(0, 3, 1, 0), 1);
        due(16, "ring, to 4", x.comes(0, 4, 1, 1), 1);
        due(16, "ring, to 3", x.comes(0, 3, 1, 1), 0);
        due(16, "UNKNOWN way", x.comes(4, 0, 2, 2), SumsForAll.UNKNOWN);
        due(16, "UNKNOWN machine", x.comes(0, 5, 2, 2), SumsForAll.UNKNOWN);
        due(16, "OUTSIDE place", x.comes(0, 0, 2, 0), SumsForAll.OUTSIDE);
        due(16, "OUTSIDE place", x.comes(0, 0, -1, 0), SumsForAll.OUTSIDE);
        due(16, "OUTSIDE what", x.comes(0, 0, 0, 2), SumsForAll.OUTSIDE);
        due(16, "OUTSIDE what", x.comes(0, 0, 0, -1), SumsForAll.OUTSIDE);
    }

    private static void promises17And18() {
        SumsForAll x = with(3, 2);
        x.put(2, 1, 9);
        x.slow(1, 2, 7);
        due(17, "OUTSIDE", x.image(2), SumsForAll.OUTSIDE);
        due(17, "OUTSIDE", x.image(-1), SumsForAll.OUTSIDE);
        due(17, "refused: none kept", x.count(6), 0);
        due(17, "image", x.image(1), 1);
        due(18, "STATE", x.restore(0), SumsForAll.STATE);
        due(18, "refused: stays", x.at(2, 1), 9);
        x.rule(0, 2);
        x.rule(1, 50);
        x.rule(2, 60);
        x.machines(9, 12);
        x.put(8, 11, 900);
        due(17, "image", x.image(0), 1);
        due(18, "restore", x.restore(1), 1);
        dueCounts(x, 3, 2, 0, 5, 1, 9, 3);
        due(18, "slow", x.slow(1, 2, 1), 7);
        x.put(2, 1, 8);
        due(18, "the image stays", x.restore(1), 1);
        due(18, "its number", x.at(2, 1), 9);
        due(18, "its slow", x.slow(1, 2, 6), 7);
        due(17, "in its place", x.image(1), 1);
        due(18, "the other one", x.restore(0), 1);
        dueCounts(x, 9, 12, 2, 50, 60, 900, 3);
        due(18, "its slow", x.slow(1, 2, 1), 1);
        due(18, "the new one", x.restore(1), 1);
        due(18, "its slow", x.slow(1, 2, 1), 6);
        due(18, "OUTSIDE", x.restore(2), SumsForAll.OUTSIDE);
        due(18, "OUTSIDE", x.restore(-1), SumsForAll.OUTSIDE);
        due(18, "OUTSIDE", x.restore(32), SumsForAll.OUTSIDE);
    }

    private static void dueCounts(SumsForAll x, int... counts) {
        for (int what = 0; what < counts.length; what++) {
            due(18, "count " + what, x.count(what), counts[what]);
        }
    }

    private static void promise19() {
        SumsForAll x = with(9, 12);
        for (int m = 0; m < 9; m++) {
            for (int p = 0; p < 12; p++) {
                x.put(m, p, 996);
            }
        }
        due(19, "all numbers", x.count(5), 9 * 12 * 996);
        x.rule(0, 1);
        x.rule(1, 98);
        x.rule(2, 97);
        due(19, "MANY", x.count(0), 9);
        due(19, "SIZE", x.count(1), 12);
        due(19, "OP", x.count(2), 1);
        due(19, "START", x.count(3), 98);
        due(19, "EACH", x.count(4), 97);
        due(19, "no image", x.count(6), 0);
        x.image(1);
        due(19, "image 1", x.count(6), 2);
        x.image(0);
        due(19, "both", x.count(6), 3);
        due(19, "OUTSIDE", x.count(7), SumsForAll.OUTSIDE);
        due(19, "OUTSIDE", x.count(-1), SumsForAll.OUTSIDE);
        due(19, "OUTSIDE", x.count(LOW), SumsForAll.OUTSIDE);
        due(19, "OUTSIDE", x.count(HIGH), SumsForAll.OUTSIDE);
    }
}
