/**
 * The boundary cases of promises 17 to 19: an image that is kept anew, that stays, that was never kept; the least and
 * the most of each count; the last call for which an object is used.
 */
public final class BoundsOfImages {
    private static final int OUTSIDE = SumsForAll.OUTSIDE, STATE = SumsForAll.STATE;
    private static final int LAST_CALL = 512;

    private BoundsOfImages() {
    }

    public static void main(String[] args) {
        firstAndLastImage();
        inPlaceOfWhatWasKept();
        allButImagesIsKept();
        theMostIsKept();
        imagesAreNotInImages();
        theImageStays();
        keepingChangesNothingElse();
        machinesLeaveImages();
        nothingWasKept();
        leastAndMostCounts();
        whichImagesAreKept();
        theLastCall();
        Check.finish();
    }

    private static void firstAndLastImage() {
        SumsForAll x = new SumsForAll();
        Check.due(17, "an IMAGE (0, 1)", "image(-1)", x.image(-1), OUTSIDE);
        Check.due(17, "an IMAGE (0, 1)", "image(2)", x.image(2), OUTSIDE);
        Check.due(17, "what is refused changes nothing", "count(6)", x.count(6), 0);
        Check.due(17, "an IMAGE (0, 1)", "image(0)", x.image(0), 1);
        Check.due(17, "an IMAGE (0, 1)", "image(1)", x.image(1), 1);
        Check.due(18, "OUTSIDE", "restore(-1)", x.restore(-1), OUTSIDE);
        Check.due(18, "OUTSIDE", "restore(2)", x.restore(2), OUTSIDE);
        Check.due(18, "as it was when it was kept", "restore(0)", x.restore(0), 1);
        Check.due(18, "as it was when it was kept", "restore(1)", x.restore(1), 1);
    }

    private static void inPlaceOfWhatWasKept() {
        for (int k = 0; k < 2; k++) {
            SumsForAll x = new SumsForAll();
            x.put(0, 0, 1);
            x.image(k);
            x.put(0, 0, 2);
            x.image(1 - k);
            x.put(0, 0, 3);
            Check.due(17, "in place of what was kept there", "image again", x.image(k), 1);
            x.put(0, 0, 4);
            x.restore(k);
            Check.due(17, "in place of what was kept there", "image " + k, x.at(0, 0), 3);
            x.restore(1 - k);
            Check.due(17, "in place of what was kept there", "not the other one", x.at(0, 0), 2);
        }
    }

    private static void dueCounts(int promise, String told, SumsForAll x, int... want) {
        for (int what = 0; what < want.length; what++) {
            Check.due(promise, told, "count " + what, x.count(what), want[what]);
        }
    }

    private static void allButImagesIsKept() {
        String told = "all but IMAGES is as it was when it was kept";
        for (int k = 0; k < 2; k++) {
            SumsForAll x = new SumsForAll();
            x.machines(3, 2);
            x.put(2, 1, 77);
            x.slow(1, 2, 8);
            x.rule(0, 2);
            x.rule(1, 98);
            x.rule(2, 97);
            x.image(k);
            x.machines(9, 12);
            x.put(8, 11, 500);
            x.slow(1, 2, 3);
            x.slow(7, 8, 9);
            x.rule(0, 1);
            x.rule(1, 0);
            x.rule(2, 0);
            Check.due(18, told, "restore " + k, x.restore(k), 1);
            dueCounts(18, told, x, 3, 2, 2, 98, 97, 77, 1 << k);
            Check.due(18, told, "at", x.at(2, 1), 77);
            Check.due(18, told, "no such PLACE any more", x.at(2, 2), SumsForAll.NONE);
            Check.due(18, told, "no such MACHINE any more", x.at(3, 0), SumsForAll.UNKNOWN);
            Check.due(18, told, "slow", x.slow(2, 1, 8), 8);
            x.machines(9, 12);
            Check.due(18, told, "numbers that were away are 0", x.count(5), 0);
            Check.due(18, told, "slows that were away are 1", x.slow(7, 8, 1), 1);
        }
    }

    private static void theMostIsKept() {
        String told = "all but IMAGES is kept";
        SumsForAll x = new SumsForAll();
        x.machines(9, 12);
        for (int m = 0; m < 9; m++) {
            for (int p = 0; p < 12; p++) {
                x.put(m, p, 100 * m + p);
            }
            for (int other = m + 1; other < 9; other++) {
                x.slow(m, other, 2 + (m * 3 + other) % 8);
            }
        }
        x.image(1);
        x.machines(2, 1);
        x.restore(1);
        for (int m = 0; m < 9; m++) {
            for (int p = 0; p < 12; p++) {
                Check.due(17, told, "at " + m + " " + p, x.at(m, p), 100 * m + p);
            }
            for (int other = m + 1; other < 9; other++) {
                Check.due(17, told, "slow " + other + " " + m, x.slow(other, m, 1), 2 + (m * 3 + other) % 8);
            }
        }
    }

    private static void imagesAreNotInImages() {
        String told = "all but IMAGES";
        SumsForAll x = new SumsForAll();
        x.image(0);
        x.put(0, 0, 6);
        x.image(1);
        Check.due(18, told, "restore(0), kept ahead of 1", x.restore(0), 1);
        Check.due(18, told, "both are kept yet", x.count(6), 3);
        Check.due(18, told, "restore(1)", x.restore(1), 1);
        Check.due(18, told, "what 1 kept", x.at(0, 0), 6);
        x.restore(0);
        Check.due(18, told, "what 0 kept", x.at(0, 0), 0);
    }

    private static void theImageStays() {
        SumsForAll x = new SumsForAll();
        x.put(3, 3, 8);
        x.slow(2, 3, 4);
        x.image(0);
        for (int i = 0; i < 3; i++) {
            Check.due(18, "the IMAGE stays", "restore", x.restore(0), 1);
            Check.due(18, "the IMAGE stays", "at", x.at(3, 3), 8);
            Check.due(18, "the IMAGE stays", "slow", x.slow(3, 2, 9), 4);
            Check.due(18, "the IMAGE stays", "count(6)", x.count(6), 1);
            x.put(3, 3, 900);
            x.rule(i, 2);
            if (i == 1) {
                x.machines(2, 1);
            }
        }
        x.restore(0);
        dueCounts(18, "the IMAGE stays", x, 4, 4, 0, 5, 1, 8, 1);
    }

    private static void keepingChangesNothingElse() {
        SumsForAll x = new SumsForAll();
        x.machines(2, 3);
        x.put(1, 2, 9);
        x.slow(0, 1, 5);
        x.image(0);
        dueCounts(17, "is kept", x, 2, 3, 0, 5, 1, 9, 1);
        Check.due(17, "is kept", "slow", x.slow(0, 1, 5), 5);
        x.put(1, 2, 10);
        Check.due(17, "is kept", "what is put then is no image's", x.at(1, 2), 10);
        x.restore(0);
        Check.due(17, "is kept", "what was kept", x.at(1, 2), 9);
    }

    private static void machinesLeaveImages() {
        SumsForAll x = new SumsForAll();
        x.put(0, 0, 4);
        x.image(1);
        x.machines(9, 12);
        Check.due(2, "all numbers are 0", "images are kept yet", x.count(6), 2);
        Check.due(18, "as it was when it was kept", "restore(1)", x.restore(1), 1);
        Check.due(18, "as it was when it was kept", "at", x.at(0, 0), 4);
    }

    private static void nothingWasKept() {
        String told = "STATE: nothing was kept in it";
        SumsForAll x = new SumsForAll();
        x.put(0, 0, 3);
        Check.due(18, told, "restore(0)", x.restore(0), STATE);
        Check.due(18, told, "restore(1)", x.restore(1), STATE);
        Check.due(18, "what is refused changes nothing", "at", x.at(0, 0), 3);
        x.image(0);
        Check.due(18, told, "restore(1), 0 is kept", x.restore(1), STATE);
        Check.due(18, told, "restore(0)", x.restore(0), 1);
        x.image(1);
        Check.due(18, told, "restore(1)", x.restore(1), 1);
        SumsForAll y = new SumsForAll();
        y.image(1);
        Check.due(18, told, "restore(0), 1 is kept", y.restore(0), STATE);
        Check.due(18, "OUTSIDE, then STATE", "restore(2)", new SumsForAll().restore(2), OUTSIDE);
        Check.due(18, "OUTSIDE, then STATE", "restore(-1)", new SumsForAll().restore(-1), OUTSIDE);
    }

    private static void leastAndMostCounts() {
        SumsForAll x = new SumsForAll();
        x.machines(2, 1);
        x.rule(1, 0);
        x.rule(2, 0);
        dueCounts(19, "the least", x, 2, 1, 0, 0, 0, 0, 0);
        x.machines(9, 12);
        x.rule(0, 2);
        x.rule(1, 99);
        x.rule(2, 99);
        for (int m = 0; m < 9; m++) {
            for (int p = 0; p < 12; p++) {
                x.put(m, p, 996);
            }
        }
        x.image(0);
        x.image(1);
        dueCounts(19, "the most", x, 9, 12, 2, 99, 99, 107568, 3);
        Check.due(19, "OUTSIDE", "count(-1)", x.count(-1), OUTSIDE);
        Check.due(19, "OUTSIDE", "count(7)", x.count(7), OUTSIDE);
        x.machines(2, 1);
        Check.due(19, "all numbers of all ROWS", "of fewer", x.count(5), 0);
        x.put(0, 0, 1);
        x.put(1, 0, 2);
        Check.due(19, "all numbers of all ROWS", "of the first and the last", x.count(5), 3);
    }

    private static void whichImagesAreKept() {
        String told = "which IMAGES are kept, a set: bits 0, 1";
        SumsForAll x = new SumsForAll();
        Check.due(19, told, "none", x.count(6), 0);
        x.image(1);
        Check.due(19, told, "1", x.count(6), 2);
        x.image(1);
        Check.due(19, told, "1 again", x.count(6), 2);
        x.restore(0);
        Check.due(19, told, "1, restore(0) is refused", x.count(6), 2);
        x.image(0);
        Check.due(19, told, "both", x.count(6), 3);
        SumsForAll y = new SumsForAll();
        y.image(0);
        Check.due(19, told, "0", y.count(6), 1);
    }

    private static void theLastCall() {
        SumsForAll x = new SumsForAll();
        for (int call = 1; call <= LAST_CALL; call++) {
            int was = call == 1 ? 0 : call - 1;
            Check.due(3, "an object is used for at most 512 calls", "put, call " + call, x.put(3, 3, call), was);
        }
    }
}
