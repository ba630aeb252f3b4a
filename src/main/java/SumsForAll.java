import java.util.Arrays;

/**
 * Sums that everyone gets: machines whose rows are mixed into one row that all of them have, by four ways.
 * What each call answers is told, as numbered promises, by the project's document.
 */
public final class SumsForAll {
    public static final int UNKNOWN = -1, OUTSIDE = -2, STATE = -3, FULL = -4, NO = -5, NONE = -6;

    private static final int LEAST_MACHINES = 2, MOST_MACHINES = 9, MOST_LEVEL = 3, MOST_PLACES = 12;
    private static final int MODULUS = 997;
    private static final int MOST_OP = 2, MOST_COST = 99, MOST_SLOW = 9, MOST_SIZE_ASKED = 99;

    private static final int OP = 0, START = 1, EACH_NUMBER = 2;
    private static final int RING = 0, HALVES = 1, TREE = 2, EACH = 3;

    // What is told of a letter: the numbers are those by which letter(..) is asked.
    private static final int ROUND = 0, SENDER = 1, RECEIVER = 2, FIRST = 3, LENGTH = 4, KIND = 5, PRICE = 6;
    private static final int ADDS = 0, ADDED_TO = 1, SETS = 2;

    // The ring has most: 9 machines send in each of 2 times 8 rounds.
    private static final int MOST_LETTERS = 144;
    private static final int NO_LETTER = -1;

    private final Setting now = new Setting();
    private final Setting image0 = new Setting();
    private final Setting image1 = new Setting();
    private int keptImages = 0;

    // Made once and used again by every call, so that no call makes objects.
    private final Letters letters = new Letters();
    private final Busy busy = new Busy();
    private final Play usual = new Play();
    private final Play another = new Play();

    public SumsForAll() {
    }

    // ---- 1 machines

    public int machines(int many, int size) {
        if (!isWithin(many, LEAST_MACHINES, MOST_MACHINES) || !isWithin(size, 1, MOST_PLACES)) {
            return OUTSIDE;
        }
        int was = now.many;
        now.begin(many, size);
        return was;
    }

    public int put(int machine, int place, int v) {
        if (!now.hasMachine(machine)) {
            return UNKNOWN;
        }
        if (!now.hasPlace(place) || !isWithin(v, 0, MODULUS - 1)) {
            return OUTSIDE;
        }
        int was = now.rows.get(machine, place);
        now.rows.set(machine, place, v);
        return was;
    }

    public int rule(int what, int v) {
        if (!isWithin(what, OP, EACH_NUMBER) || !isWithin(v, 0, what == OP ? MOST_OP : MOST_COST)) {
            return OUTSIDE;
        }
        int was = ruleNow(what);
        if (what == OP) {
            now.op = v;
        } else if (what == START) {
            now.start = v;
        } else {
            now.each = v;
        }
        return was;
    }

    public int slow(int one, int other, int v) {
        if (!now.hasMachine(one) || !now.hasMachine(other)) {
            return UNKNOWN;
        }
        if (one == other || !isWithin(v, 1, MOST_SLOW)) {
            return OUTSIDE;
        }
        int was = now.slowness(one, other);
        now.setSlowness(one, other, v);
        return was;
    }

    public int at(int machine, int place) {
        if (!now.hasMachine(machine)) {
            return UNKNOWN;
        }
        return now.hasPlace(place) ? now.rows.get(machine, place) : NONE;
    }

    // ---- 2 ways

    public int way(int way, int what) {
        if (!isWay(way)) {
            return UNKNOWN;
        }
        if (!isWithin(what, 0, 5)) {
            return OUTSIDE;
        }
        write(way);
        busy.reckon(now, letters);
        switch (what) {
            case 0:
                return letters.rounds;
            case 1:
                return letters.written;
            case 2:
                return letters.numbersInAll();
            case 3:
                return busy.time;
            case 4:
                return busy.longestRound;
            default:
                return busy.busiestMachine(now.many);
        }
    }

    public int letter(int way, int k, int what) {
        if (!isWay(way)) {
            return UNKNOWN;
        }
        if (!isWithin(what, ROUND, PRICE)) {
            return OUTSIDE;
        }
        write(way);
        if (!letters.has(k)) {
            return NONE;
        }
        return what == PRICE ? now.priceOf(letters, k) : letters.told(k, what);
    }

    public int behind(int way, int r, int machine, int place) {
        if (!isWay(way) || !now.hasMachine(machine)) {
            return UNKNOWN;
        }
        if (r < 0) {
            return OUTSIDE;
        }
        if (!now.hasPlace(place)) {
            return NONE;
        }
        write(way);
        usual.run(now, letters, r, NO_LETTER);
        return usual.rows.get(machine, place);
    }

    public int same(int way, int what) {
        if (!isWay(way)) {
            return UNKNOWN;
        }
        if (!isWithin(what, 0, 1)) {
            return OUTSIDE;
        }
        playToTheEnd(usual, way);
        return what == 0 ? asNumber(allRowsAreOne(usual.rows)) : placesMixedByRising(usual.rows);
    }

    public int alike(int way, int other) {
        if (!isWay(way) || !isWay(other)) {
            return UNKNOWN;
        }
        playToTheEnd(usual, way);
        playToTheEnd(another, other);
        return asNumber(usual.rows.differing(0, another.rows, 0, now.size) == 0);
    }

    // ---- 3 prices, losses

    public int best(int s, int what) {
        if (!isWithin(s, 1, MOST_SIZE_ASKED) || !isWithin(what, 0, 1)) {
            return OUTSIDE;
        }
        int bestWay = RING;
        int bestTime = timeIfSizeWere(RING, s);
        for (int w = HALVES; w <= EACH; w++) {
            int time = timeIfSizeWere(w, s);
            if (time < bestTime) {
                bestWay = w;
                bestTime = time;
            }
        }
        return what == 0 ? bestWay : bestTime;
    }

    public int from(int way, int other) {
        if (!isWay(way) || !isWay(other)) {
            return UNKNOWN;
        }
        for (int s = 1; s <= MOST_SIZE_ASKED; s++) {
            if (timeIfSizeWere(way, s) < timeIfSizeWere(other, s)) {
                return s;
            }
        }
        return NONE;
    }

    public int lost(int way, int k, int what) {
        if (!isWay(way)) {
            return UNKNOWN;
        }
        if (!isWithin(what, 0, 1)) {
            return OUTSIDE;
        }
        playToTheEnd(usual, way);
        if (!letters.has(k)) {
            return NONE;
        }
        another.run(now, letters, letters.rounds, k);
        return what == 0 ? machinesThatDiffer() : numbersThatDiffer();
    }

    public int worst(int way, int what) {
        if (!isWay(way)) {
            return UNKNOWN;
        }
        if (!isWithin(what, 0, 2)) {
            return OUTSIDE;
        }
        playToTheEnd(usual, way);
        int worstLetter = 0;
        int mostHarm = 0;
        int harmless = 0;
        for (int k = 0; k < letters.written; k++) {
            another.run(now, letters, letters.rounds, k);
            int harm = numbersThatDiffer();
            if (harm > mostHarm) {
                worstLetter = k;
                mostHarm = harm;
            }
            if (harm == 0) {
                harmless++;
            }
        }
        return what == 0 ? worstLetter : what == 1 ? mostHarm : harmless;
    }

    public int comes(int way, int machine, int place, int what) {
        if (!isWay(way) || !now.hasMachine(machine)) {
            return UNKNOWN;
        }
        if (!now.hasPlace(place) || !isWithin(what, 0, 1)) {
            return OUTSIDE;
        }
        write(way);
        int found = 0;
        for (int k = 0; k < letters.written; k++) {
            boolean sets = letters.told(k, KIND) == SETS;
            if (letters.told(k, RECEIVER) == machine && letters.brings(k, place) && sets == (what == 1)) {
                found++;
            }
        }
        return found;
    }

    // ---- 4 images

    public int image(int k) {
        if (!isWithin(k, 0, 1)) {
            return OUTSIDE;
        }
        imageOf(k).copyFrom(now);
        keptImages |= 1 << k;
        return 1;
    }

    public int restore(int k) {
        if (!isWithin(k, 0, 1)) {
            return OUTSIDE;
        }
        if ((keptImages & (1 << k)) == 0) {
            return STATE;
        }
        now.copyFrom(imageOf(k));
        return 1;
    }

    public int count(int what) {
        switch (what) {
            case 0:
                return now.many;
            case 1:
                return now.size;
            case 2:
                return ruleNow(OP);
            case 3:
                return ruleNow(START);
            case 4:
                return ruleNow(EACH_NUMBER);
            case 5:
                return now.allNumbersAdded();
            case 6:
                return keptImages;
            default:
                return OUTSIDE;
        }
    }

    // ---- what the calls share

    private static boolean isWithin(int v, int least, int most) {
        return v >= least && v <= most;
    }

    private static boolean isWay(int way) {
        return isWithin(way, RING, EACH);
    }

    private static int asNumber(boolean b) {
        return b ? 1 : 0;
    }

    private Setting imageOf(int k) {
        return k == 0 ? image0 : image1;
    }

    private int ruleNow(int what) {
        return what == OP ? now.op : what == START ? now.start : now.each;
    }

    private void write(int way) {
        letters.write(way, now.many, now.size);
    }

    private void playToTheEnd(Play play, int way) {
        write(way);
        play.run(now, letters, letters.rounds, NO_LETTER);
    }

    private int timeIfSizeWere(int way, int size) {
        letters.write(way, now.many, size);
        busy.reckon(now, letters);
        return busy.time;
    }

    private boolean allRowsAreOne(Rows rows) {
        for (int m = 1; m < now.many; m++) {
            if (rows.differing(m, rows, 0, now.size) > 0) {
                return false;
            }
        }
        return true;
    }

    private int placesMixedByRising(Rows rows) {
        int found = 0;
        for (int p = 0; p < now.size; p++) {
            if (rows.get(0, p) == now.mixedByRising(p)) {
                found++;
            }
        }
        return found;
    }

    private int machinesThatDiffer() {
        int set = 0;
        for (int m = 0; m < now.many; m++) {
            if (usual.rows.differing(m, another.rows, m, now.size) > 0) {
                set |= 1 << m;
            }
        }
        return set;
    }

    private int numbersThatDiffer() {
        int found = 0;
        for (int m = 0; m < now.many; m++) {
            found += usual.rows.differing(m, another.rows, m, now.size);
        }
        return found;
    }

    /** The numbers of all machines, with room for the most machines and places there can be. */
    private static final class Rows {
        private final int[] numbers = new int[MOST_MACHINES * MOST_PLACES];

        int get(int machine, int place) {
            return isInside(machine, place) ? numbers[machine * MOST_PLACES + place] : 0;
        }

        void set(int machine, int place, int v) {
            if (isInside(machine, place)) {
                numbers[machine * MOST_PLACES + place] = v;
            }
        }

        void clear() {
            Arrays.fill(numbers, 0);
        }

        void copyFrom(Rows source) {
            System.arraycopy(source.numbers, 0, numbers, 0, MOST_MACHINES * MOST_PLACES);
        }

        /** At how many places a machine's row is not as another one's in other rows. */
        int differing(int machine, Rows others, int otherMachine, int size) {
            int found = 0;
            for (int p = 0; p < size; p++) {
                if (get(machine, p) != others.get(otherMachine, p)) {
                    found++;
                }
            }
            return found;
        }

        private static boolean isInside(int machine, int place) {
            return isWithin(machine, 0, MOST_MACHINES - 1) && isWithin(place, 0, MOST_PLACES - 1);
        }
    }

    /** All that an image keeps. */
    private static final class Setting {
        private final Rows rows = new Rows();
        private final int[] slows = new int[MOST_MACHINES * MOST_MACHINES];
        private int many = 4;
        private int size = 4;
        private int op = 0;
        private int start = 5;
        private int each = 1;

        Setting() {
            Arrays.fill(slows, 1);
        }

        void begin(int newMany, int newSize) {
            many = newMany;
            size = newSize;
            rows.clear();
            Arrays.fill(slows, 1);
        }

        void copyFrom(Setting source) {
            many = source.many;
            size = source.size;
            op = source.op;
            start = source.start;
            each = source.each;
            rows.copyFrom(source.rows);
            System.arraycopy(source.slows, 0, slows, 0, MOST_MACHINES * MOST_MACHINES);
        }

        boolean hasMachine(int machine) {
            return isWithin(machine, 0, many - 1);
        }

        boolean hasPlace(int place) {
            return isWithin(place, 0, size - 1);
        }

        int slowness(int one, int two) {
            return hasLine(one, two) ? slows[one * MOST_MACHINES + two] : 1;
        }

        void setSlowness(int one, int two, int v) {
            if (hasLine(one, two)) {
                slows[one * MOST_MACHINES + two] = v;
                slows[two * MOST_MACHINES + one] = v;
            }
        }

        int mixed(int a, int b) {
            if (op == 0) {
                return (a + b) % MODULUS;
            }
            if (op == 1) {
                return Math.max(a, b);
            }
            return (31 * a + b) % MODULUS;
        }

        int mixedByRising(int place) {
            int result = rows.get(0, place);
            for (int m = 1; m < many; m++) {
                result = mixed(result, rows.get(m, place));
            }
            return result;
        }

        int priceOf(Letters letters, int k) {
            int slowness = slowness(letters.told(k, SENDER), letters.told(k, RECEIVER));
            return (start + each * letters.told(k, LENGTH)) * slowness;
        }

        int allNumbersAdded() {
            int sum = 0;
            for (int m = 0; m < many; m++) {
                for (int p = 0; p < size; p++) {
                    sum += rows.get(m, p);
                }
            }
            return sum;
        }

        private static boolean hasLine(int one, int two) {
            return isWithin(one, 0, MOST_MACHINES - 1) && isWithin(two, 0, MOST_MACHINES - 1);
        }
    }

    /** The letters of one way, in the order of their numbers, which is also that in which they come. */
    private static final class Letters {
        private final int[] table = new int[MOST_LETTERS * PRICE];
        private int written = 0;
        private int rounds = 0;
        private int many = 0;
        private int size = 0;

        // The span that each machine has while the halves are written.
        private final int[] spanFirst = new int[MOST_MACHINES];
        private final int[] spanLength = new int[MOST_MACHINES];

        void write(int way, int newMany, int newSize) {
            written = 0;
            rounds = 0;
            many = Math.min(newMany, MOST_MACHINES);
            size = newSize;
            if (way == RING) {
                writeRing();
            } else if (way == HALVES) {
                writeHalves();
            } else if (way == TREE) {
                writeTree();
            } else {
                writeEach();
            }
        }

        boolean has(int k) {
            return k >= 0 && k < written;
        }

        int told(int k, int what) {
            return has(k) && isWithin(what, ROUND, KIND) ? table[k * PRICE + what] : 0;
        }

        boolean brings(int k, int place) {
            int first = told(k, FIRST);
            return place >= first && place < first + told(k, LENGTH);
        }

        int numbersInAll() {
            int sum = 0;
            for (int k = 0; k < written; k++) {
                sum += told(k, LENGTH);
            }
            return sum;
        }

        private void send(int sender, int receiver, int first, int length, int kind) {
            if (written >= MOST_LETTERS) {
                return;
            }
            int row = written * PRICE;
            table[row + ROUND] = rounds;
            table[row + SENDER] = sender;
            table[row + RECEIVER] = receiver;
            table[row + FIRST] = first;
            table[row + LENGTH] = length;
            table[row + KIND] = kind;
            written++;
        }

        private void sendWhole(int sender, int receiver, int kind) {
            send(sender, receiver, 0, size, kind);
        }

        private void endRound() {
            rounds++;
        }

        private void writeRing() {
            for (int r = 0; r < many - 1; r++) {
                for (int m = 0; m < many; m++) {
                    sendPart(m, aroundTheRing(m - r), ADDED_TO);
                }
                endRound();
            }
            for (int r = 0; r < many - 1; r++) {
                for (int m = 0; m < many; m++) {
                    sendPart(m, aroundTheRing(m + 1 - r), SETS);
                }
                endRound();
            }
        }

        private void sendPart(int m, int part, int kind) {
            int first = partStart(part);
            send(m, aroundTheRing(m + 1), first, partStart(part + 1) - first, kind);
        }

        private int partStart(int part) {
            return many > 0 ? size * part / many : 0;
        }

        /** Left over by how many machines there are, of a number that is at most once around away. */
        private int aroundTheRing(int n) {
            return n < 0 ? n + many : n >= many ? n - many : n;
        }

        private void writeHalves() {
            int power = greatestPowerOfTwo();
            if (many > power) {
                for (int m = power; m < many; m++) {
                    sendWhole(m, m - power, ADDS);
                }
                endRound();
            }
            Arrays.fill(spanFirst, 0);
            Arrays.fill(spanLength, size);
            for (int d = power / 2; d >= 1; d /= 2) {
                writeHalving(power, d);
            }
            for (int d = 1; d < power; d *= 2) {
                writeDoubling(power, d);
            }
            if (many > power) {
                for (int m = 0; m < many - power; m++) {
                    sendWhole(m, m + power, SETS);
                }
                endRound();
            }
        }

        private int greatestPowerOfTwo() {
            int power = 1;
            for (int p = 2; p <= MOST_MACHINES; p *= 2) {
                if (p <= many) {
                    power = p;
                }
            }
            return power;
        }

        private void writeHalving(int power, int d) {
            for (int m = 0; m < power && m < MOST_MACHINES; m++) {
                int first = spanFirst[m];
                int lower = spanLength[m] / 2;
                int upper = spanLength[m] - lower;
                if ((m & d) == 0) {
                    send(m, m + d, first + lower, upper, ADDED_TO);
                    spanLength[m] = lower;
                } else {
                    send(m, m - d, first, lower, ADDS);
                    spanFirst[m] = first + lower;
                    spanLength[m] = upper;
                }
            }
            endRound();
        }

        private void writeDoubling(int power, int d) {
            for (int m = 0; m < power && m < MOST_MACHINES; m++) {
                send(m, m ^ d, spanFirst[m], spanLength[m], SETS);
            }
            for (int m = 0; m + d < power && m + d < MOST_MACHINES; m++) {
                if ((m & d) == 0) {
                    spanLength[m] += spanLength[m + d];
                    spanFirst[m + d] = spanFirst[m];
                    spanLength[m + d] = spanLength[m];
                }
            }
            endRound();
        }

        private void writeTree() {
            int deepest = deepestLevel();
            for (int level = deepest; level >= 1; level--) {
                for (int m = firstOnLevel(level); m < many && m < firstOnLevel(level + 1); m++) {
                    sendWhole(m, upper(m), ADDS);
                }
                endRound();
            }
            for (int level = 1; level <= deepest; level++) {
                for (int m = firstOnLevel(level); m < many && m < firstOnLevel(level + 1); m++) {
                    sendWhole(upper(m), m, SETS);
                }
                endRound();
            }
        }

        private static int upper(int m) {
            return (m - 1) / 2;
        }

        /** As each machine is the upper of two, a level holds 1, 2, 4, .. machines, in a row. */
        private static int firstOnLevel(int level) {
            return (1 << level) - 1;
        }

        private int deepestLevel() {
            int deepest = 0;
            for (int level = 1; level <= MOST_LEVEL; level++) {
                if (firstOnLevel(level) < many) {
                    deepest = level;
                }
            }
            return deepest;
        }

        private void writeEach() {
            for (int m = 1; m < many; m++) {
                sendWhole(m, 0, ADDS);
            }
            endRound();
            for (int m = 1; m < many; m++) {
                sendWhole(0, m, SETS);
            }
            endRound();
        }
    }

    /** How long the machines are busy with the letters of a way. */
    private static final class Busy {
        private final int[] inRound = new int[MOST_MACHINES];
        private final int[] inAll = new int[MOST_MACHINES];
        private int time = 0;
        private int longestRound = 0;

        void reckon(Setting setting, Letters letters) {
            Arrays.fill(inAll, 0);
            time = 0;
            longestRound = 0;
            int longest = 0;
            int k = 0;
            for (int r = 0; r < letters.rounds; r++) {
                Arrays.fill(inRound, 0);
                for (; k < letters.written && letters.told(k, ROUND) == r; k++) {
                    int price = setting.priceOf(letters, k);
                    charge(letters.told(k, SENDER), price);
                    charge(letters.told(k, RECEIVER), price);
                }
                int takes = longestInRound();
                time += takes;
                if (takes > longest) {
                    longest = takes;
                    longestRound = r;
                }
            }
        }

        int busiestMachine(int many) {
            int busiest = 0;
            for (int m = 1; m < many && m < MOST_MACHINES; m++) {
                if (inAll[m] > inAll[busiest]) {
                    busiest = m;
                }
            }
            return busiest;
        }

        private void charge(int machine, int price) {
            if (isWithin(machine, 0, MOST_MACHINES - 1)) {
                inRound[machine] += price;
                inAll[machine] += price;
            }
        }

        private int longestInRound() {
            int longest = 0;
            for (int m = 0; m < MOST_MACHINES; m++) {
                longest = Math.max(longest, inRound[m]);
            }
            return longest;
        }
    }

    /** The rows while letters go. */
    private static final class Play {
        private final Rows rows = new Rows();

        // A letter holds what its sender had when the round began, whatever has come to the sender since.
        private final Rows atRoundStart = new Rows();

        void run(Setting setting, Letters letters, int rounds, int lostLetter) {
            rows.copyFrom(setting.rows);
            int k = 0;
            for (int r = 0; r < rounds && r < letters.rounds; r++) {
                atRoundStart.copyFrom(rows);
                for (; k < letters.written && letters.told(k, ROUND) == r; k++) {
                    if (k != lostLetter) {
                        deliver(setting, letters, k);
                    }
                }
            }
        }

        private void deliver(Setting setting, Letters letters, int k) {
            int sender = letters.told(k, SENDER);
            int receiver = letters.told(k, RECEIVER);
            int kind = letters.told(k, KIND);
            int first = letters.told(k, FIRST);
            int end = first + letters.told(k, LENGTH);
            for (int p = first; p < end; p++) {
                int had = rows.get(receiver, p);
                int coming = atRoundStart.get(sender, p);
                rows.set(receiver, p, received(setting, kind, had, coming));
            }
        }

        private static int received(Setting setting, int kind, int had, int coming) {
            if (kind == ADDS) {
                return setting.mixed(had, coming);
            }
            return kind == ADDED_TO ? setting.mixed(coming, had) : coming;
        }
    }
}
