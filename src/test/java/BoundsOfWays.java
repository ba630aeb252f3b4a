/**
 * The boundary cases of promises 7 to 11 and of the second part of the terms: the ring's wrap, halves of what can't be
 * halved, levels that are just begun, the first and the last letter and round, empty spans.
 */
public final class BoundsOfWays {
    private static final int RING = 0, HALVES = 1, TREE = 2, EACH = 3;
    private static final int ADDS = 0, ADDED_TO = 1, SETS = 2;
    private static final int NONE = SumsForAll.NONE, HIGH = Integer.MAX_VALUE;
    private static final int MOST_MANY = 9;

    // By MANY, from 2 on.
    private static final int[][] ROUNDS = {
        {2, 4, 6, 8, 10, 12, 14, 16}, {2, 4, 4, 6, 6, 6, 6, 8}, {2, 2, 4, 4, 4, 4, 6, 6}, {2, 2, 2, 2, 2, 2, 2, 2}};
    private static final int[][] LETTERS = {
        {4, 12, 24, 40, 60, 84, 112, 144}, {4, 6, 16, 18, 20, 22, 48, 50},
        {2, 4, 6, 8, 10, 12, 14, 16}, {2, 4, 6, 8, 10, 12, 14, 16}};

    private BoundsOfWays() {
    }

    public static void main(String[] args) {
        roundsAndLetters();
        numbersInAllLetters();
        theFirstOfTheLongestRounds();
        theLeastOfTheBusiestMachines();
        lettersAreNumbered();
        firstAndLastLetter();
        behindTheLastMachineComes0();
        partsAroundTheRing();
        theLeastRing();
        machinesOverAPowerOfTwo();
        halvesOfOddSpans();
        halvesOfOneAndOfNone();
        theLesserOneIsMixedFirst();
        levelsOfTheTree();
        theMostTree();
        eachToEach();
        firstPlaceOfEmptySpans();
        behindNoRoundAndBeyondTheLast();
        lettersComeByRisingSenders();
        theSameRowAtTheEnd();
        placesMixedByRisingMachines();
        twoWaysOrOne();
        oneOtherPlaceIsEnough();
        asThingsAreWhenAsked();
        endsAreAsThingsAreWhenAsked();
        Check.finish();
    }

    private static SumsForAll with(int many, int size) {
        SumsForAll x = new SumsForAll();
        x.machines(many, size);
        return x;
    }

    /** Round, from, to, first place, how many, kind, as far as they are given. */
    private static void dueLetter(String told, SumsForAll x, int way, int k, int... want) {
        for (int what = 0; what < want.length; what++) {
            Check.due(8, told, "letter " + way + " " + k + " " + what, x.letter(way, k, what), want[what]);
        }
    }

    private static void roundsAndLetters() {
        for (int many = 2; many <= MOST_MANY; many++) {
            for (int size : new int[] {1, 12}) {
                SumsForAll x = with(many, size);
                for (int w = 0; w < 4; w++) {
                    String call = "way " + w + " of " + many + ", size " + size;
                    Check.due(7, "ROUNDS", call, x.way(w, 0), ROUNDS[w][many - 2]);
                    Check.due(7, "LETTERS, those of empty SPANS, too", call, x.way(w, 1), LETTERS[w][many - 2]);
                }
            }
        }
    }

    private static void numbersInAllLetters() {
        String told = "numbers in all LETTERS, added";
        for (int many = 2; many <= MOST_MANY; many++) {
            for (int size : new int[] {1, 12}) {
                SumsForAll x = with(many, size);
                // In each round of the ring all parts go once.
                Check.due(7, told, "ring of " + many, x.way(RING, 2), 2 * (many - 1) * size);
                Check.due(7, told, "tree of " + many, x.way(TREE, 2), 2 * (many - 1) * size);
                Check.due(7, told, "each of " + many, x.way(EACH, 2), 2 * (many - 1) * size);
            }
        }
        // Of 8, in a round of halving four pairs send 12, then of each half two pairs 6, then one 3; and as many back.
        Check.due(7, told, "halves of 8", with(8, 12).way(HALVES, 2), 2 * (4 * 12 + 4 * 6 + 4 * 3));
        Check.due(7, told, "halves of 9", with(9, 12).way(HALVES, 2), 2 * (4 * 12 + 4 * 6 + 4 * 3 + 12));
        Check.due(7, told, "halves of 2", with(2, 1).way(HALVES, 2), 2);
    }

    private static void theFirstOfTheLongestRounds() {
        String told = "the ROUND that takes longest, of such the first";
        SumsForAll x = with(4, 4);
        Check.due(7, told, "ring: all", x.way(RING, 4), 0);
        Check.due(7, told, "halves: 0 and 3", x.way(HALVES, 4), 0);
        Check.due(7, told, "tree: 1 and 2", x.way(TREE, 4), 1);
        Check.due(7, told, "each: both", x.way(EACH, 4), 0);
        Check.due(7, told, "tree: 1 and 2", x.way(TREE, 4), 1);
        x.rule(1, 0);
        x.rule(2, 0);
        Check.due(7, told, "tree: all take no time", x.way(TREE, 4), 0);
        // Of 3 machines one number goes 2 to 0, 0 to 1, 1 to 2, 2 to 0; without START it alone has a price.
        SumsForAll y = with(3, 1);
        y.rule(1, 0);
        Check.due(7, told, "ring of 3: all", y.way(RING, 4), 0);
        y.slow(1, 2, 2);
        Check.due(7, told, "ring of 3: only round 2", y.way(RING, 4), 2);
        y.slow(0, 1, 2);
        Check.due(7, told, "ring of 3: 1 and 2", y.way(RING, 4), 1);
        y.slow(0, 2, 2);
        Check.due(7, told, "ring of 3: all", y.way(RING, 4), 0);
        y.rule(2, 0);
        Check.due(7, told, "all take no time", y.way(RING, 4), 0);
        Check.due(7, "TIME", "all is free", y.way(RING, 3), 0);
        Check.due(7, told, "tree: both take no time", y.way(TREE, 4), 0);
    }

    private static void theLeastOfTheBusiestMachines() {
        String told = "the MACHINE that is BUSY longest in all ROUNDS together, of such the least";
        SumsForAll x = with(9, 9);
        Check.due(7, told, "ring: all", x.way(RING, 5), 0);
        Check.due(7, told, "each: 0", x.way(EACH, 5), 0);
        // In the tree 1, 2 and 3 have an upper and are the upper of two; 0 has just two below it.
        Check.due(7, told, "tree: 1, 2, 3", x.way(TREE, 5), 1);
        x.slow(7, 8, 2);
        Check.due(7, told, "ring: 7 and 8", x.way(RING, 5), 7);
        x.slow(8, 0, 2);
        Check.due(7, told, "ring: 8, the last one", x.way(RING, 5), 8);
        x.slow(0, 1, 2);
        Check.due(7, told, "ring: 0 and 8", x.way(RING, 5), 0);
        SumsForAll y = with(2, 1);
        for (int w = 0; w < 4; w++) {
            Check.due(7, told, "two machines, way " + w, y.way(w, 5), 0);
        }
        y.rule(1, 0);
        y.rule(2, 0);
        Check.due(7, told, "all is free", y.way(RING, 5), 0);
    }

    private static void lettersAreNumbered() {
        String told = "LETTERS are numbered by ROUNDS, then by from whom, then by to whom";
        for (int many = 2; many <= MOST_MANY; many++) {
            for (int w = 0; w < 4; w++) {
                SumsForAll x = with(many, 1);
                int before = -1;
                for (int k = 0; k < LETTERS[w][many - 2]; k++) {
                    String call = "letter " + w + " " + k + " of " + many;
                    int from = x.letter(w, k, 1);
                    int to = x.letter(w, k, 2);
                    int order = (x.letter(w, k, 0) * many + from) * many + to;
                    Check.due(8, told, call, order > before ? 1 : 0, 1);
                    boolean both = from >= 0 && from < many && to >= 0 && to < many;
                    Check.due(8, "from a MACHINE to another one", call, both && from != to ? 1 : 0, 1);
                    before = order;
                }
            }
        }
    }

    private static void firstAndLastLetter() {
        for (int many = 2; many <= MOST_MANY; many++) {
            SumsForAll x = with(many, 12);
            for (int w = 0; w < 4; w++) {
                int last = LETTERS[w][many - 2] - 1;
                String call = "way " + w + " of " + many;
                Check.due(8, "LETTERS are numbered from 0 on", call, x.letter(w, 0, 0), 0);
                Check.due(8, "its ROUND", call + ", last", x.letter(w, last, 0), ROUNDS[w][many - 2] - 1);
                for (int what = 0; what < 7; what++) {
                    Check.due(8, "NONE: there is no such LETTER", call, x.letter(w, last + 1, what), NONE);
                    Check.due(8, "NONE: there is no such LETTER", call, x.letter(w, -1, what), NONE);
                }
            }
        }
    }

    private static void behindTheLastMachineComes0() {
        String told = "to m and 1 (behind the last MACHINE comes 0)";
        for (int many = 2; many <= MOST_MANY; many++) {
            SumsForAll x = with(many, 3);
            for (int r = 0; r < 2 * (many - 1); r++) {
                int last = r * many + many - 1;
                dueLetter(told, x, RING, last, r, many - 1, 0);
                dueLetter(told, x, RING, last - 1, r, many - 2, many - 1);
            }
        }
    }

    /** Nine machines and nine places: part k is the place k. */
    private static void partsAroundTheRing() {
        SumsForAll x = with(9, 9);
        String added = "PART (m less r, and MANY if that is below 0)";
        dueLetter(added, x, RING, 0, 0, 0, 1, 0, 1, ADDED_TO);
        dueLetter(added, x, RING, 8, 0, 8, 0, 8, 1, ADDED_TO);
        dueLetter(added, x, RING, 9, 1, 0, 1, 8, 1, ADDED_TO);
        dueLetter(added, x, RING, 10, 1, 1, 2, 0, 1, ADDED_TO);
        dueLetter(added, x, RING, 63, 7, 0, 1, 2, 1, ADDED_TO);
        dueLetter(added, x, RING, 69, 7, 6, 7, 8, 1, ADDED_TO);
        dueLetter(added, x, RING, 70, 7, 7, 8, 0, 1, ADDED_TO);
        dueLetter(added, x, RING, 71, 7, 8, 0, 1, 1, ADDED_TO);
        String set = "PART (m and 1, less r, left over by MANY, 0 or more), SETS";
        dueLetter(set, x, RING, 72, 8, 0, 1, 1, 1, SETS);
        dueLetter(set, x, RING, 79, 8, 7, 8, 8, 1, SETS);
        dueLetter(set, x, RING, 80, 8, 8, 0, 0, 1, SETS);
        dueLetter(set, x, RING, 81, 9, 0, 1, 0, 1, SETS);
        dueLetter(set, x, RING, 89, 9, 8, 0, 8, 1, SETS);
        dueLetter(set, x, RING, 90, 10, 0, 1, 8, 1, SETS);
        dueLetter(set, x, RING, 135, 15, 0, 1, 3, 1, SETS);
        dueLetter(set, x, RING, 140, 15, 5, 6, 8, 1, SETS);
        dueLetter(set, x, RING, 141, 15, 6, 7, 0, 1, SETS);
        dueLetter(set, x, RING, 143, 15, 8, 0, 2, 1, SETS);
    }

    private static void theLeastRing() {
        SumsForAll x = with(2, 3);
        // Part 0 is place 0, part 1 the places 1 and 2.
        dueLetter("ROUNDS r from 0 to MANY less 2", x, RING, 0, 0, 0, 1, 0, 1, ADDED_TO);
        dueLetter("ROUNDS r from 0 to MANY less 2", x, RING, 1, 0, 1, 0, 1, 2, ADDED_TO);
        dueLetter("then as many ROUNDS", x, RING, 2, 1, 0, 1, 1, 2, SETS);
        dueLetter("then as many ROUNDS", x, RING, 3, 1, 1, 0, 0, 1, SETS);
    }

    private static void machinesOverAPowerOfTwo() {
        String first = "each m of P or more sends its whole ROW to m less P, ADDS";
        String last = "each m below MANY less P sends its whole ROW to m and P, SETS";
        int[] powers = {2, 2, 4, 4, 4, 4, 8, 8};
        for (int many = 2; many <= MOST_MANY; many++) {
            SumsForAll x = with(many, 12);
            int power = powers[many - 2];
            int over = many - power;
            int letters = LETTERS[HALVES][many - 2];
            for (int m = 0; m < over; m++) {
                dueLetter(first, x, HALVES, m, 0, power + m, m, 0, 12, ADDS);
                int rounds = ROUNDS[HALVES][many - 2];
                dueLetter(last, x, HALVES, letters - over + m, rounds - 1, m, power + m, 0, 12, SETS);
            }
            int before = over > 0 ? 1 : 0;
            dueLetter("if MANY is more than P", x, HALVES, over, before, 0, power / 2, 6, 6, ADDED_TO);
            int back = ROUNDS[HALVES][many - 2] - 1 - before;
            dueLetter("if MANY is more than P", x, HALVES, letters - over - 1, back, power - 1, power / 2 - 1, 6, 6, SETS);
        }
    }

    private static void halvesOfOddSpans() {
        SumsForAll x = with(4, 7);
        // 0 and 1 keep 0 with 3, 2 and 3 keep 3 with 4; then 0 with 1, 1 with 2, 3 with 2, 5 with 2.
        String half = "who has not that bit keeps f with n by 2, the other one the rest";
        dueLetter(half, x, HALVES, 0, 0, 0, 2, 3, 4, ADDED_TO);
        dueLetter(half, x, HALVES, 1, 0, 1, 3, 3, 4, ADDED_TO);
        dueLetter(half, x, HALVES, 2, 0, 2, 0, 0, 3, ADDS);
        dueLetter(half, x, HALVES, 3, 0, 3, 1, 0, 3, ADDS);
        dueLetter(half, x, HALVES, 4, 1, 0, 1, 1, 2, ADDED_TO);
        dueLetter(half, x, HALVES, 5, 1, 1, 0, 0, 1, ADDS);
        dueLetter(half, x, HALVES, 6, 1, 2, 3, 5, 2, ADDED_TO);
        dueLetter(half, x, HALVES, 7, 1, 3, 2, 3, 2, ADDS);
        String twice = "and has what both had then, as one SPAN";
        dueLetter(twice, x, HALVES, 8, 2, 0, 1, 0, 1, SETS);
        dueLetter(twice, x, HALVES, 9, 2, 1, 0, 1, 2, SETS);
        dueLetter(twice, x, HALVES, 10, 2, 2, 3, 3, 2, SETS);
        dueLetter(twice, x, HALVES, 11, 2, 3, 2, 5, 2, SETS);
        dueLetter(twice, x, HALVES, 12, 3, 0, 2, 0, 3, SETS);
        dueLetter(twice, x, HALVES, 13, 3, 1, 3, 0, 3, SETS);
        dueLetter(twice, x, HALVES, 14, 3, 2, 0, 3, 4, SETS);
        dueLetter(twice, x, HALVES, 15, 3, 3, 1, 3, 4, SETS);
    }

    private static void halvesOfOneAndOfNone() {
        String told = "a SPAN is a first PLACE and how many from there on (maybe none)";
        SumsForAll x = with(4, 1);
        dueLetter(told, x, HALVES, 0, 0, 0, 2, 0, 1, ADDED_TO);
        dueLetter(told, x, HALVES, 2, 0, 2, 0, 0, 0, ADDS);
        dueLetter(told, x, HALVES, 4, 1, 0, 1, 0, 0, ADDED_TO);
        dueLetter(told, x, HALVES, 5, 1, 1, 0, 0, 0, ADDS);
        dueLetter(told, x, HALVES, 6, 1, 2, 3, 0, 1, ADDED_TO);
        dueLetter(told, x, HALVES, 7, 1, 3, 2, 0, 0, ADDS);
        dueLetter(told, x, HALVES, 10, 2, 2, 3, 0, 0, SETS);
        dueLetter(told, x, HALVES, 11, 2, 3, 2, 0, 1, SETS);
        dueLetter(told, x, HALVES, 12, 3, 0, 2, 0, 0, SETS);
        dueLetter(told, x, HALVES, 14, 3, 2, 0, 0, 1, SETS);
        dueLetter(told, x, HALVES, 15, 3, 3, 1, 0, 1, SETS);
    }

    private static void theLesserOneIsMixedFirst() {
        String told = "the number of the MACHINE with the lesser number is MIXED with that of the other one";
        SumsForAll x = with(2, 2);
        x.rule(0, 2);
        for (int p = 0; p < 2; p++) {
            x.put(0, p, 1);
            x.put(1, p, 2);
        }
        Check.due(9, told, "kept by the lesser one", x.behind(HALVES, 1, 0, 0), 33);
        Check.due(9, told, "kept by the greater one", x.behind(HALVES, 1, 1, 1), 33);
        Check.due(9, told, "not kept by the lesser one", x.behind(HALVES, 1, 0, 1), 1);
        Check.due(9, told, "not kept by the greater one", x.behind(HALVES, 1, 1, 0), 2);
    }

    private static void levelsOfTheTree() {
        String told = "for each LEVEL, from the greatest down to 1, a ROUND";
        // The machine that is the first one on its level: 1, 3, 7; its upper is the first one of the level above.
        dueLetter(told, with(2, 5), TREE, 0, 0, 1, 0, 0, 5, ADDS);
        dueLetter(told, with(3, 5), TREE, 1, 0, 2, 0, 0, 5, ADDS);
        dueLetter(told, with(4, 5), TREE, 0, 0, 3, 1, 0, 5, ADDS);
        dueLetter(told, with(4, 5), TREE, 1, 1, 1, 0, 0, 5, ADDS);
        dueLetter(told, with(7, 5), TREE, 0, 0, 3, 1, 0, 5, ADDS);
        dueLetter(told, with(7, 5), TREE, 3, 0, 6, 2, 0, 5, ADDS);
        dueLetter(told, with(8, 5), TREE, 0, 0, 7, 3, 0, 5, ADDS);
        dueLetter(told, with(8, 5), TREE, 1, 1, 3, 1, 0, 5, ADDS);
        dueLetter(told, with(9, 5), TREE, 1, 0, 8, 3, 0, 5, ADDS);
    }

    private static void theMostTree() {
        SumsForAll x = with(9, 12);
        String up = "all on that LEVEL send the whole ROW to their UPPER, ADDS";
        int[][] ups = {{0, 7, 3}, {0, 8, 3}, {1, 3, 1}, {1, 4, 1}, {1, 5, 2}, {1, 6, 2}, {2, 1, 0}, {2, 2, 0}};
        String down = "for each LEVEL from 1 on, a ROUND: all on it get the whole ROW of their UPPER, SETS";
        int[][] downs = {{3, 0, 1}, {3, 0, 2}, {4, 1, 3}, {4, 1, 4}, {4, 2, 5}, {4, 2, 6}, {5, 3, 7}, {5, 3, 8}};
        for (int i = 0; i < 8; i++) {
            dueLetter(up, x, TREE, i, ups[i][0], ups[i][1], ups[i][2], 0, 12, ADDS);
            dueLetter(down, x, TREE, 8 + i, downs[i][0], downs[i][1], downs[i][2], 0, 12, SETS);
        }
    }

    private static void eachToEach() {
        for (int many = 2; many <= MOST_MANY; many++) {
            SumsForAll x = with(many, 1);
            for (int m = 1; m < many; m++) {
                dueLetter("each MACHINE but 0 sends 0 its whole ROW, ADDS", x, EACH, m - 1, 0, m, 0, 0, 1, ADDS);
                dueLetter("0 sends all others its own, SETS", x, EACH, many - 2 + m, 1, 0, m, 0, 1, SETS);
            }
        }
    }

    private static void firstPlaceOfEmptySpans() {
        String told = "the first PLACE of its SPAN (also of an empty one)";
        SumsForAll x = with(9, 2);
        // Part k of 9 begins at 2 times k, by 9: with 5 at place 1; 4 and 8 have a number, 5 to 7 have none.
        dueLetter(told, x, RING, 3, 0, 3, 4, 0, 0, ADDED_TO);
        dueLetter(told, x, RING, 4, 0, 4, 5, 0, 1, ADDED_TO);
        dueLetter(told, x, RING, 5, 0, 5, 6, 1, 0, ADDED_TO);
        dueLetter(told, x, RING, 7, 0, 7, 8, 1, 0, ADDED_TO);
        dueLetter(told, x, RING, 8, 0, 8, 0, 1, 1, ADDED_TO);
        // Halves of 8 of 2: 0 to 3 keep place 0, 4 to 7 place 1; then 4 and 5 keep none, from 1 on.
        dueLetter(told, x, HALVES, 13, 2, 4, 6, 1, 1, ADDED_TO);
        dueLetter(told, x, HALVES, 15, 2, 6, 4, 1, 0, ADDS);
        dueLetter(told, x, HALVES, 21, 3, 4, 5, 1, 0, ADDED_TO);
        dueLetter(told, x, HALVES, 22, 3, 5, 4, 1, 0, ADDS);
        dueLetter(told, x, HALVES, 29, 4, 4, 5, 1, 0, SETS);
        dueLetter(told, x, HALVES, 37, 5, 4, 6, 1, 0, SETS);
        dueLetter(told, x, HALVES, 45, 6, 4, 0, 1, 1, SETS);
        Check.due(8, "its PRICE", "of an empty one: START", x.letter(HALVES, 21, 6), 5);
    }

    private static void behindNoRoundAndBeyondTheLast() {
        for (int many = 2; many <= MOST_MANY; many++) {
            SumsForAll x = with(many, 1);
            for (int m = 0; m < many; m++) {
                x.put(m, 0, 1 + m);
            }
            int all = many * (many + 1) / 2;
            for (int w = 0; w < 4; w++) {
                int rounds = ROUNDS[w][many - 2];
                String call = "way " + w + " of " + many;
                for (int m = 0; m < many; m++) {
                    Check.due(9, "0: at first", call, x.behind(w, 0, m, 0), 1 + m);
                    Check.due(9, "behind all ROUNDS", call, x.behind(w, rounds, m, 0), all);
                    Check.due(9, "beyond the last one: at the end", call, x.behind(w, rounds + 1, m, 0), all);
                    Check.due(9, "beyond the last one: at the end", call, x.behind(w, HIGH, m, 0), all);
                }
                int late = lastToGetIt(w, many);
                int before = x.behind(w, rounds - 1, late, 0);
                Check.due(9, "behind r ROUNDS", call + ", one less", before != all ? 1 : 0, 1);
                Check.due(9, "asking changes nothing", call, x.at(late, 0), 1 + late);
            }
        }
    }

    /** A machine to which the number comes in the last round alone. */
    private static int lastToGetIt(int way, int many) {
        if (way == RING) {
            // The one number is the last part; it ends its first way around at MANY less 2 and the second one ahead of it.
            return Math.floorMod(many - 3, many);
        }
        boolean power = many == 2 || many == 4 || many == 8;
        return way == HALVES && power ? 0 : many - 1;
    }

    private static void lettersComeByRisingSenders() {
        String told = "then they come, by rising numbers of those from whom they are";
        SumsForAll x = with(4, 1);
        x.rule(0, 2);
        x.put(1, 0, 1);
        x.put(2, 0, 2);
        // 0, then 1, 2 and 3: 31 times 31, and 31 times 2, is 1023; of the tree 3 comes to 1 first.
        Check.due(9, told, "each", x.behind(EACH, 1, 0, 0), 1023 - 997);
        x.put(3, 0, 3);
        Check.due(9, told, "each", x.behind(EACH, 1, 0, 0), 1026 - 997);
        Check.due(9, told, "tree: 3 to 1", x.behind(TREE, 1, 1, 0), 34);
        // 31 times 34, and 2.
        Check.due(9, told, "tree: 1 and 2 to 0", x.behind(TREE, 2, 0, 0), 1056 - 997);
    }

    private static void fillMost(SumsForAll x) {
        for (int m = 0; m < 9; m++) {
            for (int p = 0; p < 12; p++) {
                x.put(m, p, (m * 97 + p * 31 + 1) % 997);
            }
        }
    }

    private static void theSameRowAtTheEnd() {
        SumsForAll x = with(9, 12);
        fillMost(x);
        for (int op = 0; op < 3; op++) {
            x.rule(0, op);
            for (int w = 0; w < 4; w++) {
                String call = "way " + w + ", OP " + op;
                Check.due(10, "all MACHINES have the same ROW at the end: 1", call, x.same(w, 0), 1);
                if (op < 2) {
                    Check.due(10, "at how many PLACES", call + ": at all", x.same(w, 1), 12);
                }
            }
        }
        Check.due(10, "MIXED by rising MACHINES", "each, OP 2: at all", x.same(EACH, 1), 12);
    }

    private static void placesMixedByRisingMachines() {
        String told = "at how many PLACES MACHINE 0 has what comes of all numbers, MIXED by rising MACHINES";
        SumsForAll x = with(9, 9);
        x.rule(0, 2);
        for (int p = 0; p < 9; p++) {
            x.put(8, p, 1);
        }
        // Part k is mixed from machine k on around: just part 0 has 8 as the last one.
        Check.due(10, told, "ring: one", x.same(RING, 1), 1);
        Check.due(10, told, "each: all", x.same(EACH, 1), 9);
        // 8 is mixed into 0 ahead of all others; in the tree into 3, which comes into 1 ahead of 4, 2, 5 and 6.
        Check.due(10, told, "halves: none", x.same(HALVES, 1), 0);
        Check.due(10, told, "tree: none", x.same(TREE, 1), 0);
        x.put(8, 8, 0);
        Check.due(10, told, "halves: the last, of zeros", x.same(HALVES, 1), 1);
        x.put(8, 0, 0);
        Check.due(10, told, "halves: the first, too", x.same(HALVES, 1), 2);
        SumsForAll y = with(2, 1);
        y.rule(0, 2);
        y.put(1, 0, 1);
        Check.due(10, told, "the least ring: none", y.same(RING, 1), 0);
        Check.due(10, told, "the least halves", y.same(HALVES, 1), 1);
    }

    private static void twoWaysOrOne() {
        SumsForAll x = with(9, 12);
        x.rule(0, 2);
        fillMost(x);
        for (int w = 0; w < 4; w++) {
            for (int other = 0; other < 4; other++) {
                String call = "alike " + w + " " + other;
                Check.due(11, "two WAYS (or one)", call, x.alike(w, other), w == other ? 1 : 0);
            }
        }
        x.rule(0, 0);
        for (int w = 0; w < 4; w++) {
            Check.due(11, "end with the same ROW", "alike " + w + " 0, added", x.alike(w, 0), 1);
            Check.due(11, "end with the same ROW", "alike 3 " + w + ", added", x.alike(3, w), 1);
        }
    }

    private static void oneOtherPlaceIsEnough() {
        String told = "whether two WAYS end with the same ROW at MACHINE 0: 1, 0";
        // Three machines: halves mix 0, 2, 1 at each place; each mixes 0, 1, 2.
        for (int place = 0; place < 12; place++) {
            SumsForAll x = with(3, 12);
            x.rule(0, 2);
            Check.due(11, told, "all zeros", x.alike(HALVES, EACH), 1);
            x.put(1, place, 1);
            Check.due(11, told, "other at place " + place, x.alike(HALVES, EACH), 0);
            Check.due(11, told, "other at place " + place, x.alike(EACH, HALVES), 0);
        }
    }

    private static void asThingsAreWhenAsked() {
        String told = "all that is told is as things are when it is asked";
        SumsForAll x = with(3, 2);
        Check.due(7, told, "way", x.way(EACH, 3), 28);
        Check.due(8, told, "letter", x.letter(EACH, 0, 4), 2);
        Check.due(9, told, "behind", x.behind(EACH, 2, 2, 0), 0);
        x.put(1, 0, 7);
        Check.due(9, told, "behind, put", x.behind(EACH, 2, 2, 0), 7);
        x.rule(0, 2);
        Check.due(9, told, "behind, OP", x.behind(EACH, 2, 2, 0), 217);
        x.rule(1, 6);
        Check.due(7, told, "way, START", x.way(EACH, 3), 32);
        x.rule(2, 2);
        Check.due(7, told, "way, EACH", x.way(EACH, 3), 40);
        x.slow(0, 2, 3);
        Check.due(7, told, "way, SLOW", x.way(EACH, 3), 80);
        Check.due(8, told, "letter, SLOW", x.letter(EACH, 1, 6), 30);
        x.image(0);
        x.machines(2, 3);
        Check.due(7, told, "way, machines", x.way(EACH, 3), 24);
        Check.due(8, told, "letter, machines", x.letter(EACH, 2, 0), NONE);
        x.restore(0);
        Check.due(7, told, "way, restore", x.way(EACH, 3), 80);
        Check.due(9, told, "behind, restore", x.behind(EACH, 2, 2, 0), 217);
    }

    private static void endsAreAsThingsAreWhenAsked() {
        String told = "all that is told is as things are when it is asked";
        SumsForAll x = with(3, 2);
        x.put(1, 0, 7);
        dueEndOfRing(told + ": added", x, 2, 1);
        x.image(1);
        x.rule(0, 2);
        // In the ring place 0 is mixed from machine 1 on: 31 times 217, left over by 997; by rising machines it is 217.
        dueEndOfRing(told + ": OP", x, 1, 0);
        x.put(1, 0, 0);
        dueEndOfRing(told + ": put", x, 2, 1);
        x.put(2, 1, 1);
        dueEndOfRing(told + ": put elsewhere", x, 1, 0);
        x.restore(1);
        dueEndOfRing(told + ": restore", x, 2, 1);
        x.machines(2, 1);
        dueEndOfRing(told + ": machines", x, 1, 1);
    }

    private static void dueEndOfRing(String told, SumsForAll x, int places, int likeEach) {
        Check.due(10, told, "same(0, 1)", x.same(RING, 1), places);
        // By the way of each the numbers are mixed by rising machines, so it holds at all places by any OP.
        Check.due(10, told, "same(3, 1)", x.same(EACH, 1), x.count(1));
        Check.due(11, told, "alike(0, 3)", x.alike(RING, EACH), likeEach);
    }
}
