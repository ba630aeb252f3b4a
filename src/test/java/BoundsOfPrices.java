/**
 * The boundary cases of promises 12 to 16 and of the third part of the terms: the least and the most price, the first
 * and the last size that is asked for, ways and letters that do alike, letters whose loss does no harm, edges of spans.
 */
public final class BoundsOfPrices {
    private static final int RING = 0, HALVES = 1, TREE = 2, EACH = 3;
    private static final int OUTSIDE = SumsForAll.OUTSIDE, NONE = SumsForAll.NONE;

    private BoundsOfPrices() {
    }

    public static void main(String[] args) {
        leastAndMostPrice();
        priceOfAnEmptyLetter();
        busyBySendingAndGetting();
        theMachineThatIsBusyLongest();
        mostTime();
        bestOfTheFirstAndTheLastSize();
        bestOfEqualsIsTheFirst();
        bestAsksForNoSizeThatIs();
        fromTheFirstAndTheLastSize();
        fromIsLessAndNotTheSame();
        setOfMachines();
        mostNumbersThatAreOther();
        lostEmptyLetters();
        othersGoWithWhatThereIs();
        firstAndLastLostLetter();
        worstOfEqualsIsTheFirst();
        worstWithoutHarm();
        worstIsTheLastLetter();
        edgesOfSpans();
        emptySpansHaveNoPlace();
        addsAndSets();
        timesAreAsThingsAreWhenAsked();
        lossesAreAsThingsAreWhenAsked();
        placesAreAsThingsAreWhenAsked();
        Check.finish();
    }

    private static SumsForAll with(int many, int size) {
        SumsForAll x = new SumsForAll();
        x.machines(many, size);
        return x;
    }

    private static void prices(SumsForAll x, int start, int each) {
        x.rule(1, start);
        x.rule(2, each);
    }

    private static void allSlow(SumsForAll x, int many, int v) {
        for (int one = 0; one < many; one++) {
            for (int two = one + 1; two < many; two++) {
                x.slow(one, two, v);
            }
        }
    }

    private static void leastAndMostPrice() {
        String told = "PRICE: (START, and EACH times n) times SLOW of both MACHINES";
        SumsForAll x = with(2, 12);
        Check.due(8, told, "5, 1, 1 at first", x.letter(EACH, 0, 6), 17);
        prices(x, 99, 99);
        Check.due(8, told, "99, 99, 1", x.letter(EACH, 0, 6), 1287);
        x.slow(1, 0, 9);
        Check.due(8, told, "99, 99, 9", x.letter(EACH, 0, 6), 11583);
        Check.due(8, "the same both ways", "99, 99, 9", x.letter(EACH, 1, 6), 11583);
        prices(x, 0, 99);
        Check.due(8, told, "0, 99, 9", x.letter(EACH, 0, 6), 10692);
        prices(x, 99, 0);
        Check.due(8, told, "99, 0, 9", x.letter(EACH, 0, 6), 891);
        prices(x, 0, 0);
        Check.due(8, told, "0, 0, 9", x.letter(EACH, 0, 6), 0);
    }

    private static void priceOfAnEmptyLetter() {
        String told = "PRICE of a LETTER of n numbers";
        SumsForAll x = with(9, 1);
        Check.due(8, told, "none", x.letter(RING, 0, 6), 5);
        x.slow(0, 1, 9);
        Check.due(8, told, "none, slow", x.letter(RING, 0, 6), 45);
        prices(x, 0, 99);
        Check.due(8, told, "none, START 0", x.letter(RING, 0, 6), 0);
        Check.due(8, told, "one, START 0", x.letter(RING, 8, 6), 99);
        // Two machines, one number: an empty letter keeps both busy, too.
        SumsForAll y = with(2, 1);
        Check.due(7, "all LETTERS that it sends or that come to it", "ring", y.way(RING, 3), 2 * (5 + 6));
        Check.due(7, "all LETTERS that it sends or that come to it", "halves", y.way(HALVES, 3), 2 * (5 + 6));
    }

    private static void busyBySendingAndGetting() {
        String told = "BUSY in a ROUND for the PRICES of all LETTERS that it sends or that come to it, added";
        for (int many = 2; many <= 9; many++) {
            SumsForAll x = with(many, 12);
            Check.due(7, told, "each of " + many, x.way(EACH, 3), 2 * (many - 1) * 17);
        }
        SumsForAll y = with(9, 9);
        Check.due(7, told, "ring: one sent, one that comes", y.way(RING, 3), 16 * (6 + 6));
        // Up and down: 7 and 8 to 3; 3 and 4 to 1, 5 and 6 to 2; 1 and 2 to 0.
        Check.due(7, told, "tree: two that come, or two sent", y.way(TREE, 3), 6 * 2 * 14);
    }

    private static void theMachineThatIsBusyLongest() {
        String told = "of each ROUND how long the MACHINE is BUSY that is so longest, all added";
        SumsForAll x = with(4, 4);
        Check.due(7, told, "halves", x.way(HALVES, 3), 14 + 12 + 12 + 14);
        // The line of the two last machines: it makes both rounds of d = 1 nine times as long.
        x.slow(2, 3, 9);
        Check.due(7, told, "halves, slow", x.way(HALVES, 3), 14 + 9 * 12 + 9 * 12 + 14);
        Check.due(7, told, "ring, slow", x.way(RING, 3), 6 * (6 + 9 * 6));
        Check.due(7, told, "tree, no such line", x.way(TREE, 3), 9 + 18 + 18 + 9);
    }

    private static void mostTime() {
        SumsForAll x = with(9, 12);
        prices(x, 99, 99);
        allSlow(x, 9, 9);
        Check.due(7, "TIME of a WAY", "each, the most", x.way(EACH, 3), 16 * 1287 * 9);
        // Ring of 99 by 9: 11 numbers a part, one part sent and one that comes in each of 16 rounds.
        Check.due(12, "its TIME (1)", "ring of 99, nine machines", x.best(99, 1), 16 * 2 * (99 + 11 * 99) * 9);
        Check.due(12, "the WAY of the least TIME", "ring of 99, nine machines", x.best(99, 0), RING);
        SumsForAll y = with(2, 1);
        prices(y, 99, 99);
        y.slow(0, 1, 9);
        Check.due(12, "its TIME (1)", "two machines, the most", y.best(99, 1), 2 * (99 + 99 * 99) * 9);
    }

    private static void bestOfTheFirstAndTheLastSize() {
        String told = "the WAY of the least TIME, if SIZE were s, 1 to 99";
        SumsForAll x = with(4, 4);
        // The line of 1 and 3 is none of the ring and none of each, but one of halves and one of the tree.
        x.slow(1, 3, 9);
        Check.due(12, told, "best(1, 0)", x.best(1, 0), EACH);
        Check.due(12, told, "best(1, 1)", x.best(1, 1), 2 * 3 * 6);
        // 99 by 4 are 24, 25, 25 and 25: in each round some machine sends 25 and gets 25.
        Check.due(12, told, "best(99, 0)", x.best(99, 0), RING);
        Check.due(12, told, "best(99, 1)", x.best(99, 1), 6 * (10 + 50));
        Check.due(12, "OUTSIDE: both", "best(0, 0)", x.best(0, 0), OUTSIDE);
        Check.due(12, "OUTSIDE: both", "best(100, 0)", x.best(100, 0), OUTSIDE);
        Check.due(12, "OUTSIDE: both", "best(1, -1)", x.best(1, -1), OUTSIDE);
        Check.due(12, "OUTSIDE: both", "best(99, 2)", x.best(99, 2), OUTSIDE);
        // Lines of the ring alone are slow: halves are best for 99.
        SumsForAll y = with(4, 4);
        y.slow(3, 0, 9);
        Check.due(12, told, "best(99, 0), halves", y.best(99, 0), HALVES);
        // Pairs exchange 99; then 49, or 50; and back.
        Check.due(12, told, "best(99, 1), halves", y.best(99, 1), 2 * (10 + 99) + 2 * (10 + 50));
    }

    private static void bestOfEqualsIsTheFirst() {
        String told = "the WAY of the least TIME (of such the first)";
        SumsForAll x = with(2, 1);
        Check.due(12, told, "tree and each", x.best(7, 0), TREE);
        prices(x, 0, 1);
        Check.due(12, told, "all four", x.best(7, 0), RING);
        prices(x, 0, 0);
        Check.due(12, told, "all four are free", x.best(99, 0), RING);
        Check.due(12, told, "all four are free", x.best(99, 1), 0);
        SumsForAll y = with(3, 1);
        prices(y, 0, 1);
        // Without START halves, tree and each need 4 times s, and only the ring has the slow line.
        y.slow(1, 2, 9);
        Check.due(12, told, "halves, tree, each", y.best(1, 0), HALVES);
        Check.due(12, told, "halves, tree, each", y.best(1, 1), 4);
        Check.due(12, told, "halves, tree, each", y.best(99, 0), HALVES);
        Check.due(12, told, "halves, tree, each", y.best(99, 1), 396);
    }

    private static void bestAsksForNoSizeThatIs() {
        SumsForAll x = with(2, 1);
        x.put(1, 0, 9);
        int[] sizes = {1, 2, 11, 12, 13, 98, 99};
        for (int s : sizes) {
            Check.due(12, "if SIZE were s", "best " + s, x.best(s, 1), 2 * (5 + s));
        }
        Check.due(12, "if SIZE were s", "SIZE is as it was", x.count(1), 1);
        Check.due(12, "if SIZE were s", "the number is as it was", x.at(1, 0), 9);
        Check.due(12, "if SIZE were s", "TIME is as it was", x.way(EACH, 3), 12);
        x.machines(2, 12);
        for (int s : sizes) {
            Check.due(12, "if SIZE were s", "best " + s + ", SIZE 12", x.best(s, 1), 2 * (5 + s));
        }
    }

    /** Three machines: ring 4 times (2 START and the two greatest parts), each 4 times (START and s). */
    private static void fromTheFirstAndTheLastSize() {
        String told = "the least SIZE, 1 to 99, by which a WAY takes less TIME than another one";
        SumsForAll x = with(3, 12);
        Check.due(13, told, "each before the ring", x.from(EACH, RING), 1);
        // s = 3 and START 0: 2 against 3; s = 2: 2 against 2.
        prices(x, 0, 1);
        Check.due(13, told, "the ring, START 0", x.from(RING, EACH), 3);
        // s = 98: 2 START and 66 against START and 98: the same by START 32; s = 99: 66 against 99.
        prices(x, 32, 1);
        Check.due(13, told, "99 is the last", x.from(RING, EACH), 99);
        prices(x, 31, 1);
        Check.due(13, told, "a little sooner", x.from(RING, EACH) < 99 ? 1 : 0, 1);
        prices(x, 33, 1);
        Check.due(13, "NONE: there is none", "33 and 66 against 99", x.from(RING, EACH), NONE);
        Check.due(13, "asking changes nothing", "SIZE", x.count(1), 12);
    }

    private static void fromIsLessAndNotTheSame() {
        SumsForAll x = with(2, 1);
        prices(x, 0, 1);
        for (int w = 0; w < 4; w++) {
            for (int other = 0; other < 4; other++) {
                Check.due(13, "takes less TIME", "from " + w + " " + other, x.from(w, other), NONE);
            }
        }
        prices(x, 1, 0);
        Check.due(13, "takes less TIME", "tree before the ring", x.from(TREE, RING), 1);
        Check.due(13, "NONE: there is none", "the ring before the tree", x.from(RING, TREE), NONE);
        prices(x, 0, 0);
        Check.due(13, "NONE: there is none", "all is free", x.from(TREE, RING), NONE);
    }

    private static void setOfMachines() {
        String told = "the set of MACHINES that end with another ROW than without";
        SumsForAll x = with(9, 12);
        x.put(8, 11, 1);
        Check.due(14, told, "each, 8 to 0: all", x.lost(EACH, 7, 0), 511);
        Check.due(14, "how many numbers are other in all ROWS", "each, 8 to 0", x.lost(EACH, 7, 1), 9);
        Check.due(14, told, "each, 0 to 8: it has it", x.lost(EACH, 15, 0), 0);
        Check.due(14, told, "each, 0 to 1", x.lost(EACH, 8, 0), 2);
        Check.due(14, told, "each, 1 to 0: none", x.lost(EACH, 0, 0), 0);
        x.put(8, 11, 0);
        x.put(0, 0, 1);
        Check.due(14, told, "each, 0 to 8", x.lost(EACH, 15, 0), 256);
        Check.due(14, told, "halves, 0 to 8", x.lost(HALVES, 49, 0), 256);
        // In the tree 3 sends 7 and 8 what it has.
        Check.due(14, told, "tree, 0 to 1: 1 and all below", x.lost(TREE, 8, 0), 2 + 8 + 16 + 128 + 256);
        Check.due(14, "bit k", "machine 0 alone: ring, 8 to 0 at the end", lostAtTheEndOfTheRing(), 1);
    }

    /** Three machines and three places: the last letter of the ring brings 0 the part 2 less 1. */
    private static int lostAtTheEndOfTheRing() {
        SumsForAll x = with(3, 3);
        x.put(1, 2, 1);
        return x.lost(RING, 11, 0);
    }

    private static void mostNumbersThatAreOther() {
        SumsForAll x = with(9, 12);
        for (int p = 0; p < 12; p++) {
            x.put(1, p, 1);
        }
        Check.due(14, "how many numbers are other in all ROWS", "all", x.lost(EACH, 0, 1), 108);
        Check.due(14, "the set of MACHINES", "all", x.lost(EACH, 0, 0), 511);
        Check.due(15, "how many numbers", "all", x.worst(EACH, 1), 108);
        Check.due(15, "the LETTER that does most harm", "the first", x.worst(EACH, 0), 0);
    }

    private static void lostEmptyLetters() {
        SumsForAll x = with(9, 1);
        for (int m = 0; m < 9; m++) {
            x.put(m, 0, m + 1);
        }
        for (int k = 0; k < 8; k++) {
            Check.due(14, "LOST: a LETTER of none", "ring " + k, x.lost(RING, k, 0), 0);
            Check.due(14, "LOST: a LETTER of none", "ring " + k, x.lost(RING, k, 1), 0);
        }
        Check.due(14, "LOST: a LETTER of one", "ring 8", x.lost(RING, 8, 1), 9);
        // In each of 16 rounds one of 9 letters has the number.
        Check.due(15, "how many LETTERS do none", "ring", x.worst(RING, 2), 16 * 8);
    }

    private static void othersGoWithWhatThereIs() {
        String told = "LOST k: the LETTER k does not come; all others go as told (with what there is then)";
        SumsForAll x = with(2, 1);
        x.put(0, 0, 400);
        x.put(1, 0, 600);
        // Without the letter to 0 it has 400, which it sends 1 then: 3 is due at both.
        Check.due(14, told, "ring, 1 to 0", x.lost(RING, 1, 0), 3);
        Check.due(14, told, "ring, 1 to 0", x.lost(RING, 1, 1), 2);
        // Without the letter back 1 keeps 600.
        Check.due(14, told, "ring, 0 to 1", x.lost(RING, 2, 0), 2);
        SumsForAll y = with(9, 1);
        y.put(7, 0, 1);
        // 7 and 8 to 3, 3 to 1, 1 to 0: without the first one all have 0 at the end, 7, too.
        Check.due(14, told, "tree, 7 to 3", y.lost(TREE, 0, 0), 511);
        // Without 1 to 0 all have 0, and 1 and those below it get that, too.
        Check.due(14, told, "tree, 1 to 0", y.lost(TREE, 6, 0), 511);
        // Without 3 to 7 it has what it had: 1.
        Check.due(14, told, "tree, 3 to 7", y.lost(TREE, 14, 0), 0);
        Check.due(14, "asking changes nothing", "at", y.at(7, 0), 1);
    }

    private static void firstAndLastLostLetter() {
        for (int many = 2; many <= 9; many++) {
            SumsForAll x = with(many, 1);
            for (int w = 0; w < 4; w++) {
                int letters = x.way(w, 1);
                for (int what = 0; what < 2; what++) {
                    String call = "way " + w + " of " + many;
                    Check.due(14, "all numbers are 0", call + ", first", x.lost(w, 0, what), 0);
                    Check.due(14, "all numbers are 0", call + ", last", x.lost(w, letters - 1, what), 0);
                    Check.due(14, "NONE: there is no such LETTER", call, x.lost(w, letters, what), NONE);
                    Check.due(14, "NONE: there is no such LETTER", call, x.lost(w, -1, what), NONE);
                }
            }
        }
    }

    private static void worstOfEqualsIsTheFirst() {
        String told = "the LETTER that does most harm by LOST, of such the first";
        SumsForAll x = with(4, 1);
        for (int m = 0; m < 4; m++) {
            x.put(m, 0, 1 + m);
        }
        Check.due(15, told, "each: 0, 1 and 2", x.worst(EACH, 0), 0);
        Check.due(15, "how many numbers", "each", x.worst(EACH, 1), 4);
        Check.due(15, "how many LETTERS do none", "each", x.worst(EACH, 2), 0);
        x.put(1, 0, 0);
        Check.due(15, told, "each: 1 and 2", x.worst(EACH, 0), 1);
        Check.due(15, "how many LETTERS do none", "each", x.worst(EACH, 2), 1);
        x.put(2, 0, 0);
        Check.due(15, told, "each: 2", x.worst(EACH, 0), 2);
        Check.due(15, "how many LETTERS do none", "each", x.worst(EACH, 2), 2);
    }

    private static void worstWithoutHarm() {
        int[] letters = {144, 50, 16, 16};
        SumsForAll x = with(9, 12);
        for (int w = 0; w < 4; w++) {
            Check.due(15, "of such the first", "all do none, way " + w, x.worst(w, 0), 0);
            Check.due(15, "how many numbers", "all do none, way " + w, x.worst(w, 1), 0);
            Check.due(15, "how many LETTERS do none", "all, way " + w, x.worst(w, 2), letters[w]);
        }
    }

    private static void worstIsTheLastLetter() {
        SumsForAll x = with(2, 1);
        x.put(0, 0, 5);
        Check.due(15, "the LETTER that does most harm", "each: the last", x.worst(EACH, 0), 1);
        Check.due(15, "how many numbers", "each: the last", x.worst(EACH, 1), 1);
        Check.due(15, "how many LETTERS do none", "each: the last", x.worst(EACH, 2), 1);
        SumsForAll y = with(9, 1);
        y.rule(0, 1);
        for (int m = 0; m < 8; m++) {
            y.put(m, 0, 9);
        }
        // The greater one: all but 8 have it, so only the last letter brings something new.
        Check.due(15, "the LETTER that does most harm", "each of 9: the last", y.worst(EACH, 0), 15);
        Check.due(15, "how many LETTERS do none", "each of 9: the last", y.worst(EACH, 2), 15);
        Check.due(15, "the LETTER that does most harm", "halves of 9: the last", y.worst(HALVES, 0), 49);
    }

    /** Nine machines, twelve places: part 2 is the places 2 and 3; m gets all parts but m ADDED TO, all but m and 1 SET. */
    private static void edgesOfSpans() {
        String told = "LETTERS that come to a MACHINE with a PLACE in their SPAN";
        SumsForAll x = with(9, 12);
        int[] added = {1, 1, 0, 0, 1, 1, 1, 1, 1, 1, 1, 1};
        int[] last = {1, 1, 1, 1, 1, 1, 1, 1, 1, 1, 0, 0};
        int[] first = {0, 1, 1, 1, 1, 1, 1, 1, 1, 1, 1, 1};
        for (int p = 0; p < 12; p++) {
            Check.due(16, told, "ring, 2, place " + p, x.comes(RING, 2, p, 0), added[p]);
            Check.due(16, told, "ring, 1 is set, place " + p, x.comes(RING, 1, p, 1), added[p]);
            Check.due(16, told, "ring, 8, place " + p, x.comes(RING, 8, p, 0), last[p]);
            Check.due(16, told, "ring, 7 is set, place " + p, x.comes(RING, 7, p, 1), last[p]);
            Check.due(16, told, "ring, 0, place " + p, x.comes(RING, 0, p, 0), first[p]);
            Check.due(16, told, "ring, 8 is set, place " + p, x.comes(RING, 8, p, 1), first[p]);
        }
        Check.due(16, "OUTSIDE: the PLACE", "12", x.comes(RING, 0, 12, 0), OUTSIDE);
        Check.due(16, "OUTSIDE: the PLACE", "-1", x.comes(RING, 0, -1, 0), OUTSIDE);
    }

    private static void emptySpansHaveNoPlace() {
        String told = "with a PLACE in their SPAN";
        SumsForAll x = with(2, 1);
        Check.due(16, told, "ring, 0 to 1: none", x.comes(RING, 1, 0, 0), 0);
        Check.due(16, told, "ring, 1 to 0", x.comes(RING, 0, 0, 0), 1);
        Check.due(16, told, "ring, 0 to 1, set", x.comes(RING, 1, 0, 1), 1);
        Check.due(16, told, "ring, 1 to 0, set: none", x.comes(RING, 0, 0, 1), 0);
        Check.due(16, told, "halves, 0 to 1", x.comes(HALVES, 1, 0, 0), 1);
        Check.due(16, told, "halves, 1 to 0: none", x.comes(HALVES, 0, 0, 0), 0);
        Check.due(16, told, "halves, 1 to 0, set", x.comes(HALVES, 0, 0, 1), 1);
        Check.due(16, told, "halves, 0 to 1, set: none", x.comes(HALVES, 1, 0, 1), 0);
    }

    private static void addsAndSets() {
        String told = "ADD or are ADDED TO (what = 0), SET (1)";
        SumsForAll x = with(9, 12);
        Check.due(16, told, "each, to 0", x.comes(EACH, 0, 11, 0), 8);
        Check.due(16, told, "each, to 0", x.comes(EACH, 0, 11, 1), 0);
        Check.due(16, told, "each, to 8", x.comes(EACH, 8, 0, 0), 0);
        Check.due(16, told, "each, to 8", x.comes(EACH, 8, 0, 1), 1);
        Check.due(16, told, "tree, to 0", x.comes(TREE, 0, 0, 0), 2);
        Check.due(16, told, "tree, to 3", x.comes(TREE, 3, 11, 0), 2);
        Check.due(16, told, "tree, to 3", x.comes(TREE, 3, 11, 1), 1);
        Check.due(16, told, "tree, to 4", x.comes(TREE, 4, 0, 0), 0);
        // Halves: 8 to 0 adds; 4, 2 and 1 add to 0 what it keeps: 0 to 5, 0 to 2, 0; it gets 1 and 2, 3 to 5, 6 to 11.
        int[] adds = {4, 3, 3, 2, 2, 2, 1, 1, 1, 1, 1, 1};
        for (int p = 0; p < 12; p++) {
            Check.due(16, told, "halves, to 0, place " + p, x.comes(HALVES, 0, p, 0), adds[p]);
            Check.due(16, told, "halves, to 0, place " + p, x.comes(HALVES, 0, p, 1), p == 0 ? 0 : 1);
            // 0 to 3 are letters to 7 that are added to, of the places that it keeps: 6 to 11, 9 to 11, 10 and 11.
            int added = p < 6 ? 0 : p < 9 ? 1 : p < 10 ? 2 : 3;
            Check.due(16, told, "halves, to 7, place " + p, x.comes(HALVES, 7, p, 0), added);
        }
        Check.due(16, told, "halves, to 8", x.comes(HALVES, 8, 11, 0), 0);
        Check.due(16, told, "halves, to 8", x.comes(HALVES, 8, 11, 1), 1);
    }

    private static void timesAreAsThingsAreWhenAsked() {
        String told = "all that is told is as things are when it is asked";
        SumsForAll x = with(3, 2);
        x.image(0);
        // Of s numbers: halves 30 and 4 times s, tree and each 20 and 4 times s; the ring, of 2 numbers, 4 times 12.
        dueTimes(told, x, TREE, 28, 1);
        x.rule(1, 0);
        dueTimes(told + ": START", x, RING, 8, NONE);
        x.slow(0, 1, 2);
        // The ring takes 2, 3, 3 and 2; of s numbers halves s, 2 s, 2 s and s, each 3 s and 3 s.
        dueTimes(told + ": SLOW", x, RING, 10, NONE);
        x.slow(0, 2, 2);
        // From 2 to 0 twice as long, too: the ring takes 3, 4, 3 and 3; halves 2 s each time, each 4 s and 4 s.
        dueTimes(told + ": SLOW of another line", x, RING, 13, NONE);
        x.rule(2, 0);
        dueTimes(told + ": EACH", x, RING, 0, NONE);
        x.restore(0);
        dueTimes(told + ": restore", x, TREE, 28, 1);
        x.machines(2, 12);
        // Each and tree take 2 times 5 and s, halves 2 times 10 and s.
        dueTimes(told + ": machines", x, TREE, 14, 1);
    }

    private static void dueTimes(String told, SumsForAll x, int best, int time, int fromEachToHalves) {
        Check.due(12, told, "best(2, 0)", x.best(2, 0), best);
        Check.due(12, told, "best(2, 1)", x.best(2, 1), time);
        Check.due(13, told, "from(3, 1)", x.from(EACH, HALVES), fromEachToHalves);
    }

    private static void lossesAreAsThingsAreWhenAsked() {
        String told = "all that is told is as things are when it is asked";
        SumsForAll x = with(3, 2);
        dueLosses(told, x, 0, 0, 0, 4);
        x.put(1, 0, 7);
        // 1 and 0 lose nothing by the letter of 0 to 1, which brings 1 the 7 that it has, nor by that of 2, which is 0.
        dueLosses(told + ": put", x, 7, 3, 0, 2);
        x.image(1);
        x.rule(0, 2);
        dueLosses(told + ": OP", x, 7, 3, 0, 0);
        x.rule(0, 1);
        x.put(0, 0, 7);
        // Only 2 still needs a letter, the last one.
        dueLosses(told + ": OP, put", x, 0, 1, 3, 3);
        x.restore(1);
        dueLosses(told + ": restore", x, 7, 3, 0, 2);
        x.machines(4, 1);
        dueLosses(told + ": machines", x, 0, 0, 0, 6);
    }

    private static void dueLosses(String told, SumsForAll x, int setOf0, int most, int worst, int harmless) {
        Check.due(14, told, "lost(3, 0, 0)", x.lost(EACH, 0, 0), setOf0);
        Check.due(15, told, "worst(3, 0)", x.worst(EACH, 0), worst);
        Check.due(15, told, "worst(3, 1)", x.worst(EACH, 1), most);
        Check.due(15, told, "worst(3, 2)", x.worst(EACH, 2), harmless);
    }

    private static void placesAreAsThingsAreWhenAsked() {
        String told = "all that is told is as things are when it is asked";
        SumsForAll x = with(3, 2);
        Check.due(16, told, "to 0", x.comes(EACH, 0, 1, 0), 2);
        x.image(0);
        x.machines(5, 2);
        Check.due(16, told, "to 0, machines", x.comes(EACH, 0, 1, 0), 4);
        x.machines(5, 1);
        Check.due(16, told, "to 0, size", x.comes(EACH, 0, 1, 0), OUTSIDE);
        // What is asked of 99 places leaves the ways of one place as they are.
        x.best(99, 0);
        x.from(RING, HALVES);
        Check.due(16, told, "to 0, behind best and from", x.comes(EACH, 0, 1, 0), OUTSIDE);
        Check.due(8, told, "letter, behind best and from", x.letter(EACH, 0, 4), 1);
        x.restore(0);
        Check.due(16, told, "to 0, restore", x.comes(EACH, 0, 1, 0), 2);
    }
}
