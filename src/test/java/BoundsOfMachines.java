/**
 * The boundary cases of promises 1 to 6 and of the first part of the terms: the least and the most of MANY, SIZE,
 * numbers and rules, what is left over by 997, parts that are empty.
 */
public final class BoundsOfMachines {
    private static final int UNKNOWN = SumsForAll.UNKNOWN, OUTSIDE = SumsForAll.OUTSIDE, NONE = SumsForAll.NONE;
    private static final int MOST_MANY = 9, MOST_SIZE = 12;

    private BoundsOfMachines() {
    }

    public static void main(String[] args) {
        newObject();
        newObjectsShareNothing();
        leastAndMostMachines();
        machinesBesideTheBounds();
        allNumbersAre0Then();
        allSlowsAre1Then();
        rulesStay();
        leastAndMostNumber();
        eachNumberHasItsPlace();
        leastAndMostRule();
        leastAndMostSlow();
        eachLineHasItsSlow();
        placesThatAreNoMore();
        leftOverBy997();
        theGreaterOne();
        thirtyOneTimes();
        partsOfARow();
        partsMakeTheWholeRow();
        Check.finish();
    }

    private static SumsForAll with(int many, int size) {
        SumsForAll x = new SumsForAll();
        x.machines(many, size);
        return x;
    }

    private static void newObject() {
        String told = "four MACHINES with ROWS of four numbers";
        SumsForAll x = new SumsForAll();
        Check.due(1, told, "count(0)", x.count(0), 4);
        Check.due(1, told, "count(1)", x.count(1), 4);
        Check.due(1, told, "at(3, 3)", x.at(3, 3), 0);
        Check.due(1, told, "at(3, 4)", x.at(3, 4), NONE);
        Check.due(1, told, "at(4, 3)", x.at(4, 3), UNKNOWN);
        Check.due(1, "all numbers 0 at first", "count(5)", x.count(5), 0);
        Check.due(1, "OP is 0 at first", "count(2)", x.count(2), 0);
        Check.due(1, "START, 5 at first", "count(3)", x.count(3), 5);
        Check.due(1, "EACH, 1 at first", "count(4)", x.count(4), 1);
        Check.due(1, "no IMAGE is kept", "count(6)", x.count(6), 0);
        Check.due(1, "no IMAGE is kept", "restore(0)", x.restore(0), SumsForAll.STATE);
        Check.due(1, "no IMAGE is kept", "restore(1)", x.restore(1), SumsForAll.STATE);
        for (int one = 0; one < 4; one++) {
            for (int two = 0; two < 4; two++) {
                if (one != two) {
                    Check.due(1, "SLOW, 1 at first", "slow " + one + " " + two, x.slow(one, two, 1), 1);
                }
            }
        }
    }

    private static void newObjectsShareNothing() {
        SumsForAll x = new SumsForAll();
        SumsForAll y = new SumsForAll();
        x.put(0, 0, 9);
        x.slow(0, 1, 9);
        x.rule(0, 2);
        x.rule(1, 9);
        x.rule(2, 9);
        x.image(0);
        for (SumsForAll other : new SumsForAll[] {y, new SumsForAll()}) {
            int[] due = {4, 4, 0, 5, 1, 0, 0};
            for (int what = 0; what < due.length; what++) {
                Check.due(1, "a new object", "beside another one, count " + what, other.count(what), due[what]);
            }
            Check.due(1, "a new object", "beside another one, slow", other.slow(0, 1, 1), 1);
            Check.due(1, "a new object", "beside another one, restore", other.restore(0), SumsForAll.STATE);
        }
    }

    private static void leastAndMostMachines() {
        for (int many : new int[] {2, MOST_MANY}) {
            for (int size : new int[] {1, MOST_SIZE}) {
                String call = "machines " + many + " " + size;
                SumsForAll x = new SumsForAll();
                Check.due(2, "MANY that was", call, x.machines(many, size), 4);
                Check.due(2, "MANY and SIZE", call + " count(0)", x.count(0), many);
                Check.due(2, "MANY and SIZE", call + " count(1)", x.count(1), size);
                Check.due(2, "MACHINES are 0 to MANY less 1", call, x.at(many - 1, 0), 0);
                Check.due(2, "MACHINES are 0 to MANY less 1", call, x.at(many, 0), UNKNOWN);
                Check.due(2, "a ROW of SIZE numbers, at PLACES from 0 on", call, x.at(0, size - 1), 0);
                Check.due(2, "a ROW of SIZE numbers, at PLACES from 0 on", call, x.at(0, size), NONE);
                Check.due(2, "MANY that was", call + " again", x.machines(many, size), many);
            }
        }
    }

    private static void machinesBesideTheBounds() {
        SumsForAll x = new SumsForAll();
        int[][] calls = {{1, 1}, {10, 12}, {2, 0}, {9, 13}, {1, 12}, {10, 1}, {9, 0}, {2, 13}};
        for (int[] a : calls) {
            Check.due(2, "OUTSIDE: both", "machines " + a[0] + " " + a[1], x.machines(a[0], a[1]), OUTSIDE);
        }
        Check.due(2, "what is refused changes nothing", "count(0)", x.count(0), 4);
        Check.due(2, "what is refused changes nothing", "count(1)", x.count(1), 4);
    }

    private static void fillWith(SumsForAll x, int many, int size, int v) {
        for (int m = 0; m < many; m++) {
            for (int p = 0; p < size; p++) {
                x.put(m, p, v);
            }
        }
    }

    private static void allNumbersAre0Then() {
        String told = "all numbers are 0 then";
        SumsForAll x = with(MOST_MANY, MOST_SIZE);
        fillWith(x, MOST_MANY, MOST_SIZE, 996);
        x.machines(2, 1);
        Check.due(2, told, "of fewer", x.count(5), 0);
        x.put(1, 0, 3);
        x.machines(MOST_MANY, MOST_SIZE);
        Check.due(2, told, "of those that come back", x.count(5), 0);
        for (int m = 0; m < MOST_MANY; m++) {
            for (int p = 0; p < MOST_SIZE; p++) {
                Check.due(2, told, "at " + m + " " + p, x.at(m, p), 0);
            }
        }
        x.put(8, 11, 7);
        x.machines(MOST_MANY, MOST_SIZE);
        Check.due(2, told, "of as many", x.at(8, 11), 0);
    }

    private static void allSlowsAre1Then() {
        SumsForAll x = with(MOST_MANY, 1);
        for (int round = 0; round < 3; round++) {
            for (int one = 0; one < MOST_MANY; one++) {
                for (int two = one + 1; two < MOST_MANY; two++) {
                    Check.due(2, "all SLOWS 1 then", "slow " + one + " " + two, x.slow(one, two, 9), 1);
                }
            }
            if (round == 0) {
                x.machines(2, 1);
            }
            x.machines(MOST_MANY, 1);
        }
    }

    private static void rulesStay() {
        for (int[] rules : new int[][] {{2, 99, 99}, {1, 0, 0}}) {
            SumsForAll x = new SumsForAll();
            for (int what = 0; what < 3; what++) {
                x.rule(what, rules[what]);
            }
            x.machines(2, 1);
            x.machines(9, 12);
            for (int what = 0; what < 3; what++) {
                Check.due(2, "OP, START, EACH stay", "count " + (2 + what), x.count(2 + what), rules[what]);
            }
        }
    }

    private static void leastAndMostNumber() {
        SumsForAll x = with(MOST_MANY, MOST_SIZE);
        int[][] corners = {{0, 0}, {0, 11}, {8, 0}, {8, 11}};
        for (int[] c : corners) {
            String call = "put " + c[0] + " " + c[1];
            Check.due(3, "which it was", call, x.put(c[0], c[1], 996), 0);
            Check.due(3, "numbers, 0 to 996", call, x.at(c[0], c[1]), 996);
            Check.due(3, "OUTSIDE: both", call + " 997", x.put(c[0], c[1], 997), OUTSIDE);
            Check.due(3, "OUTSIDE: both", call + " -1", x.put(c[0], c[1], -1), OUTSIDE);
            Check.due(3, "which it was", call, x.put(c[0], c[1], 0), 996);
            Check.due(3, "numbers, 0 to 996", call, x.at(c[0], c[1]), 0);
        }
        Check.due(3, "UNKNOWN: the MACHINE", "put(9, 11, 0)", x.put(9, 11, 0), UNKNOWN);
        Check.due(3, "UNKNOWN: the MACHINE", "put(-1, 0, 0)", x.put(-1, 0, 0), UNKNOWN);
        Check.due(3, "OUTSIDE: both", "put(8, 12, 0)", x.put(8, 12, 0), OUTSIDE);
        Check.due(3, "OUTSIDE: both", "put(0, -1, 0)", x.put(0, -1, 0), OUTSIDE);
    }

    private static void eachNumberHasItsPlace() {
        SumsForAll x = with(MOST_MANY, MOST_SIZE);
        for (int m = 0; m < MOST_MANY; m++) {
            for (int p = 0; p < MOST_SIZE; p++) {
                Check.due(3, "which it was", "put " + m + " " + p, x.put(m, p, 100 * m + p), 0);
            }
        }
        for (int m = 0; m < MOST_MANY; m++) {
            for (int p = 0; p < MOST_SIZE; p++) {
                Check.due(6, "the number of a MACHINE at a PLACE", "at " + m + " " + p, x.at(m, p), 100 * m + p);
            }
        }
    }

    private static void leastAndMostRule() {
        int[] atFirst = {0, 5, 1};
        int[] most = {2, 99, 99};
        for (int what = 0; what < 3; what++) {
            SumsForAll x = new SumsForAll();
            String call = "rule " + what;
            Check.due(4, "which it was", call, x.rule(what, most[what]), atFirst[what]);
            Check.due(4, "OUTSIDE: both", call + ", one more", x.rule(what, most[what] + 1), OUTSIDE);
            Check.due(4, "which it was", call, x.rule(what, 0), most[what]);
            Check.due(4, "OUTSIDE: both", call + " -1", x.rule(what, -1), OUTSIDE);
            Check.due(4, "which it was", call, x.rule(what, 1), 0);
            for (int other = 0; other < 3; other++) {
                int due = other == what ? 1 : atFirst[other];
                Check.due(4, "what is v", call + " count " + (2 + other), x.count(2 + other), due);
            }
        }
        SumsForAll x = new SumsForAll();
        Check.due(4, "what (0 OP, 1 START, 2 EACH)", "rule(-1, 0)", x.rule(-1, 0), OUTSIDE);
        Check.due(4, "what (0 OP, 1 START, 2 EACH)", "rule(3, 0)", x.rule(3, 0), OUTSIDE);
    }

    private static void leastAndMostSlow() {
        for (int many : new int[] {2, MOST_MANY}) {
            SumsForAll x = with(many, 1);
            int last = many - 1;
            Check.due(5, "which it was", "slow " + last, x.slow(0, last, 9), 1);
            Check.due(5, "1 to 9", "slow 10", x.slow(0, last, 10), OUTSIDE);
            Check.due(5, "the same both ways", "slow " + last, x.slow(last, 0, 1), 9);
            Check.due(5, "1 to 9", "slow 0", x.slow(last, 0, 0), OUTSIDE);
            Check.due(5, "the same both ways", "slow " + last, x.slow(0, last, 2), 1);
            Check.due(5, "UNKNOWN: both", "slow other", x.slow(0, many, 1), UNKNOWN);
            Check.due(5, "UNKNOWN: both", "slow one", x.slow(many, 0, 1), UNKNOWN);
            Check.due(5, "UNKNOWN: both", "slow other", x.slow(last, -1, 1), UNKNOWN);
            Check.due(5, "UNKNOWN: both", "slow one", x.slow(-1, last, 1), UNKNOWN);
            Check.due(5, "they are one", "slow", x.slow(0, 0, 1), OUTSIDE);
            Check.due(5, "they are one", "slow", x.slow(last, last, 1), OUTSIDE);
            Check.due(5, "what is refused changes nothing", "slow", x.slow(0, last, 1), 2);
        }
    }

    private static void eachLineHasItsSlow() {
        SumsForAll x = with(MOST_MANY, 1);
        for (int one = 0; one < MOST_MANY; one++) {
            for (int two = one + 1; two < MOST_MANY; two++) {
                x.slow(one, two, 1 + (one * 4 + two) % 9);
            }
        }
        for (int one = 0; one < MOST_MANY; one++) {
            for (int two = one + 1; two < MOST_MANY; two++) {
                int due = 1 + (one * 4 + two) % 9;
                Check.due(5, "SLOW of two MACHINES", "slow " + two + " " + one, x.slow(two, one, due), due);
            }
        }
    }

    private static void placesThatAreNoMore() {
        SumsForAll x = with(MOST_MANY, MOST_SIZE);
        fillWith(x, MOST_MANY, MOST_SIZE, 5);
        x.machines(2, 1);
        Check.due(6, "NONE: there is no such PLACE", "at(1, 1)", x.at(1, 1), NONE);
        Check.due(6, "NONE: there is no such PLACE", "at(1, 11)", x.at(1, 11), NONE);
        Check.due(6, "NONE: there is no such PLACE", "at(0, -1)", x.at(0, -1), NONE);
        Check.due(6, "NONE: there is no such PLACE", "at(1, -1)", x.at(1, -1), NONE);
        Check.due(6, "UNKNOWN", "at(2, 0)", x.at(2, 0), UNKNOWN);
        Check.due(6, "UNKNOWN", "at(8, 0)", x.at(8, 0), UNKNOWN);
        Check.due(6, "UNKNOWN", "at(-1, 0)", x.at(-1, 0), UNKNOWN);
        Check.due(6, "NONE only where no refusal fits", "at(2, 1)", x.at(2, 1), UNKNOWN);
    }

    /** Of two machines and one number: a letter of EACH that ADDS, and one of the RING that is ADDED TO. */
    private static void dueMixed(String told, int op, int a, int b, int want) {
        SumsForAll x = with(2, 1);
        x.rule(0, op);
        x.put(0, 0, a);
        x.put(1, 0, b);
        String call = "OP " + op + ", " + a + " with " + b;
        Check.due(9, told, call + ", ADDS", x.behind(3, 1, 0, 0), want);
        x.put(0, 0, b);
        x.put(1, 0, a);
        Check.due(9, told, call + ", ADDED TO", x.behind(0, 1, 0, 0), want);
    }

    private static void leftOverBy997() {
        String told = "both added, left over by 997";
        dueMixed(told, 0, 0, 0, 0);
        dueMixed(told, 0, 996, 0, 996);
        dueMixed(told, 0, 498, 498, 996);
        dueMixed(told, 0, 498, 499, 0);
        dueMixed(told, 0, 996, 1, 0);
        dueMixed(told, 0, 1, 996, 0);
        dueMixed(told, 0, 996, 2, 1);
        dueMixed(told, 0, 996, 996, 995);
    }

    private static void theGreaterOne() {
        dueMixed("the greater one", 1, 996, 995, 996);
        dueMixed("the greater one", 1, 995, 996, 996);
        dueMixed("the greater one", 1, 996, 996, 996);
        dueMixed("the greater one", 1, 0, 1, 1);
        dueMixed("the greater one", 1, 1, 0, 1);
        dueMixed("the greater one", 1, 0, 0, 0);
    }

    private static void thirtyOneTimes() {
        String told = "31 times a, and b, added, left over by 997";
        dueMixed(told, 2, 0, 0, 0);
        dueMixed(told, 2, 1, 0, 31);
        dueMixed(told, 2, 0, 1, 1);
        dueMixed(told, 2, 0, 996, 996);
        // 31 times 32 is 992.
        dueMixed(told, 2, 32, 4, 996);
        dueMixed(told, 2, 32, 5, 0);
        dueMixed(told, 2, 32, 6, 1);
        // 996 is 1 below 997: 31 times and once below, 32 below in all.
        dueMixed(told, 2, 996, 0, 966);
        dueMixed(told, 2, 996, 996, 965);
    }

    /** In round 0 of the ring machine m sends part m. */
    private static void dueParts(int many, int size, int... starts) {
        SumsForAll x = with(many, size);
        for (int k = 0; k < many; k++) {
            String call = "part " + k + " of " + many + ", size " + size;
            int end = k + 1 < many ? starts[k + 1] : size;
            Check.due(8, "from SIZE times k, by n", call, x.letter(0, k, 3), starts[k]);
            Check.due(8, "to SIZE times k and 1, by n, that one not", call, x.letter(0, k, 4), end - starts[k]);
        }
    }

    private static void partsOfARow() {
        dueParts(2, 1, 0, 0);
        dueParts(2, 2, 0, 1);
        dueParts(2, 11, 0, 5);
        dueParts(2, 12, 0, 6);
        dueParts(3, 1, 0, 0, 0);
        dueParts(3, 2, 0, 0, 1);
        dueParts(4, 11, 0, 2, 5, 8);
        dueParts(9, 1, 0, 0, 0, 0, 0, 0, 0, 0, 0);
        dueParts(9, 2, 0, 0, 0, 0, 0, 1, 1, 1, 1);
        dueParts(9, 8, 0, 0, 1, 2, 3, 4, 5, 6, 7);
        dueParts(9, 9, 0, 1, 2, 3, 4, 5, 6, 7, 8);
        dueParts(9, 10, 0, 1, 2, 3, 4, 5, 6, 7, 8);
        dueParts(9, 12, 0, 1, 2, 4, 5, 6, 8, 9, 10);
    }

    private static void partsMakeTheWholeRow() {
        for (int many = 2; many <= MOST_MANY; many++) {
            for (int size = 1; size <= MOST_SIZE; size++) {
                SumsForAll x = with(many, size);
                int next = 0;
                for (int k = 0; k < many; k++) {
                    String call = "part " + k + " of " + many + ", size " + size;
                    Check.due(8, "one PART begins where the one ahead of it ends", call, x.letter(0, k, 3), next);
                    next += x.letter(0, k, 4);
                }
                Check.due(8, "the last PART ends with the ROW", "of " + many + ", size " + size, next, size);
            }
        }
    }
}
