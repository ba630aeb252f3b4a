import java.util.ArrayList;
import java.util.Arrays;
import java.util.HashMap;
import java.util.List;
import java.util.Map;
import java.util.TreeMap;

/**
 * The document's words once more, as plainly as the Java library allows and apart from the class:
 * letters are made in any order and sorted, spans are lists of places, every call reckons all anew.
 */
final class Model {
    static final int UNKNOWN = -1, OUTSIDE = -2, STATE = -3, NONE = -6;

    enum Kind { ADDS, ADDED_TO, SETS }

    record Letter(int round, int from, int to, int first, int end, Kind kind) implements Comparable<Letter> {
        int length() {
            return end - first;
        }

        @Override
        public int compareTo(Letter o) {
            return Arrays.compare(new int[] {round, from, to}, new int[] {o.round, o.from, o.to});
        }
    }

    record Kept(int many, int size, int[] rules, int[][] rows, Map<String, Integer> slows) {
    }

    private int many = 4;
    private int size = 4;
    private int[] rules = {0, 5, 1};
    private int[][] rows = new int[4][4];
    private Map<String, Integer> slows = new HashMap<>();
    private final Kept[] images = new Kept[2];

    int machines(int newMany, int newSize) {
        if (newMany < 2 || newMany > 9 || newSize < 1 || newSize > 12) return OUTSIDE;
        int was = many;
        many = newMany;
        size = newSize;
        rows = new int[many][size];
        slows = new HashMap<>();
        return was;
    }

    int put(int machine, int place, int v) {
        if (noMachine(machine)) return UNKNOWN;
        if (noPlace(place) || v < 0 || v > 996) return OUTSIDE;
        int was = rows[machine][place];
        rows[machine][place] = v;
        return was;
    }

    int rule(int what, int v) {
        if (what < 0 || what > 2 || v < 0 || v > new int[] {2, 99, 99}[what]) return OUTSIDE;
        int was = rules[what];
        rules[what] = v;
        return was;
    }

    int slow(int one, int other, int v) {
        if (noMachine(one) || noMachine(other)) return UNKNOWN;
        if (one == other || v < 1 || v > 9) return OUTSIDE;
        Integer was = slows.put(line(one, other), v);
        return was == null ? 1 : was;
    }

    int at(int machine, int place) {
        if (noMachine(machine)) return UNKNOWN;
        return noPlace(place) ? NONE : rows[machine][place];
    }

    int way(int way, int what) {
        if (noWay(way)) return UNKNOWN;
        if (what < 0 || what > 5) return OUTSIDE;
        List<Letter> letters = letters(way, size);
        List<Integer> times = roundTimes(letters);
        switch (what) {
            case 0: return times.size();
            case 1: return letters.size();
            case 2: return letters.stream().mapToInt(Letter::length).sum();
            case 3: return times.stream().mapToInt(t -> t).sum();
            case 4: return times.indexOf(times.stream().mapToInt(t -> t).max().getAsInt());
            default: break;
        }
        int best = 0;
        for (int m = 0; m < many; m++) if (busy(letters, m) > busy(letters, best)) best = m;
        return best;
    }

    int letter(int way, int k, int what) {
        if (noWay(way)) return UNKNOWN;
        if (what < 0 || what > 6) return OUTSIDE;
        List<Letter> letters = letters(way, size);
        if (k < 0 || k >= letters.size()) return NONE;
        Letter l = letters.get(k);
        return new int[] {l.round, l.from, l.to, l.first, l.length(), l.kind.ordinal(), price(l)}[what];
    }

    int behind(int way, int r, int machine, int place) {
        if (noWay(way) || noMachine(machine)) return UNKNOWN;
        if (r < 0) return OUTSIDE;
        return noPlace(place) ? NONE : played(way, r, null)[machine][place];
    }

    int same(int way, int what) {
        if (noWay(way)) return UNKNOWN;
        if (what < 0 || what > 1) return OUTSIDE;
        int[][] end = played(way, Integer.MAX_VALUE, null);
        if (what == 0) return Arrays.stream(end).allMatch(row -> Arrays.equals(row, end[0])) ? 1 : 0;
        int places = 0;
        for (int p = 0; p < size; p++) {
            int all = rows[0][p];
            for (int m = 1; m < many; m++) all = mixed(all, rows[m][p]);
            if (all == end[0][p]) places++;
        }
        return places;
    }

    int alike(int way, int other) {
        if (noWay(way) || noWay(other)) return UNKNOWN;
        int[][] a = played(way, Integer.MAX_VALUE, null);
        int[][] b = played(other, Integer.MAX_VALUE, null);
        return Arrays.equals(a[0], b[0]) ? 1 : 0;
    }

    int best(int s, int what) {
        if (s < 1 || s > 99 || what < 0 || what > 1) return OUTSIDE;
        TreeMap<Integer, Integer> firstByTime = new TreeMap<>();
        for (int w = 0; w < 4; w++) firstByTime.putIfAbsent(time(w, s), w);
        return what == 0 ? firstByTime.firstEntry().getValue() : firstByTime.firstKey();
    }

    int from(int way, int other) {
        if (noWay(way) || noWay(other)) return UNKNOWN;
        for (int s = 1; s < 100; s++) if (time(way, s) < time(other, s)) return s;
        return NONE;
    }

    int lost(int way, int k, int what) {
        if (noWay(way)) return UNKNOWN;
        if (what < 0 || what > 1) return OUTSIDE;
        List<Letter> letters = letters(way, size);
        if (k < 0 || k >= letters.size()) return NONE;
        return what == 0 ? otherRows(way, letters.get(k)) : otherNumbers(way, letters.get(k));
    }

    int worst(int way, int what) {
        if (noWay(way)) return UNKNOWN;
        if (what < 0 || what > 2) return OUTSIDE;
        List<Integer> harm = letters(way, size).stream().map(l -> otherNumbers(way, l)).toList();
        int most = harm.stream().mapToInt(h -> h).max().getAsInt();
        return new int[] {harm.indexOf(most), most, (int) harm.stream().filter(h -> h == 0).count()}[what];
    }

    int comes(int way, int machine, int place, int what) {
        if (noWay(way) || noMachine(machine)) return UNKNOWN;
        if (noPlace(place) || what < 0 || what > 1) return OUTSIDE;
        return (int) letters(way, size).stream()
            .filter(l -> l.to == machine && l.first <= place && place < l.end)
            .filter(l -> (l.kind == Kind.SETS) == (what == 1)).count();
    }

    int image(int k) {
        if (k < 0 || k > 1) return OUTSIDE;
        images[k] = new Kept(many, size, rules.clone(), copy(rows), new HashMap<>(slows));
        return 1;
    }

    int restore(int k) {
        if (k < 0 || k > 1) return OUTSIDE;
        if (images[k] == null) return STATE;
        many = images[k].many;
        size = images[k].size;
        rules = images[k].rules.clone();
        rows = copy(images[k].rows);
        slows = new HashMap<>(images[k].slows);
        return 1;
    }

    int count(int what) {
        if (what < 0 || what > 6) return OUTSIDE;
        int sum = Arrays.stream(rows).flatMapToInt(Arrays::stream).sum();
        int kept = (images[0] == null ? 0 : 1) + (images[1] == null ? 0 : 2);
        return new int[] {many, size, rules[0], rules[1], rules[2], sum, kept}[what];
    }

    // ---- letters

    private List<Letter> letters(int way, int s) {
        List<Letter> all = new ArrayList<>();
        switch (way) {
            case 0: ring(all, s); break;
            case 1: halves(all, s); break;
            case 2: tree(all, s); break;
            default:
                for (int m = 1; m < many; m++) {
                    all.add(new Letter(0, m, 0, 0, s, Kind.ADDS));
                    all.add(new Letter(1, 0, m, 0, s, Kind.SETS));
                }
        }
        all.sort(null);
        return all;
    }

    private void ring(List<Letter> all, int s) {
        for (int m = 0; m < many; m++) {
            int to = (m + 1) % many;
            for (int r = 0; r <= many - 2; r++) {
                int k = Math.floorMod(m - r, many);
                all.add(new Letter(r, m, to, s * k / many, s * (k + 1) / many, Kind.ADDED_TO));
                int j = Math.floorMod(m + 1 - r, many);
                all.add(new Letter(many - 1 + r, m, to, s * j / many, s * (j + 1) / many, Kind.SETS));
            }
        }
    }

    private void halves(List<Letter> all, int s) {
        int power = Integer.highestOneBit(many);
        int bits = Integer.numberOfTrailingZeros(power);
        int before = many > power ? 1 : 0;
        for (int m = power; m < many; m++) {
            all.add(new Letter(0, m, m - power, 0, s, Kind.ADDS));
            all.add(new Letter(1 + 2 * bits, m - power, m, 0, s, Kind.SETS));
        }
        for (int m = 0; m < power; m++) {
            for (int b = 0; b < bits; b++) {
                int d = power >> (b + 1);
                int partner = m ^ d;
                int[] theirs = spanKept(partner, power, b + 1, s);
                Kind kind = m < partner ? Kind.ADDED_TO : Kind.ADDS;
                all.add(new Letter(before + b, m, partner, theirs[0], theirs[1], kind));
                int[] mine = spanKept(m, power, b + 1, s);
                all.add(new Letter(before + 2 * bits - 1 - b, m, partner, mine[0], mine[1], Kind.SETS));
            }
        }
    }

    /** First place and end of what m keeps behind some halvings. */
    private static int[] spanKept(int m, int power, int halvings, int s) {
        if (halvings == 0) return new int[] {0, s};
        int[] whole = spanKept(m, power, halvings - 1, s);
        int middle = whole[0] + (whole[1] - whole[0]) / 2;
        boolean hasBit = (m & (power >> halvings)) != 0;
        return hasBit ? new int[] {middle, whole[1]} : new int[] {whole[0], middle};
    }

    private void tree(List<Letter> all, int s) {
        int deepest = 0;
        for (int m = 0; m < many; m++) deepest = Math.max(deepest, level(m));
        for (int m = 1; m < many; m++) {
            int upper = (m - 1) / 2;
            all.add(new Letter(deepest - level(m), m, upper, 0, s, Kind.ADDS));
            all.add(new Letter(deepest + level(m) - 1, upper, m, 0, s, Kind.SETS));
        }
    }

    private static int level(int m) {
        return m == 0 ? 0 : 1 + level((m - 1) / 2);
    }

    // ---- prices

    private int price(Letter l) {
        return (rules[1] + rules[2] * l.length()) * slows.getOrDefault(line(l.from, l.to), 1);
    }

    private int busy(List<Letter> letters, int m) {
        return letters.stream().filter(l -> l.from == m || l.to == m).mapToInt(this::price).sum();
    }

    private List<Integer> roundTimes(List<Letter> letters) {
        List<Integer> times = new ArrayList<>();
        int rounds = letters.get(letters.size() - 1).round + 1;
        for (int r = 0; r < rounds; r++) {
            int round = r;
            List<Letter> ofRound = letters.stream().filter(l -> l.round == round).toList();
            int most = 0;
            for (int m = 0; m < many; m++) most = Math.max(most, busy(ofRound, m));
            times.add(most);
        }
        return times;
    }

    private int time(int way, int s) {
        return roundTimes(letters(way, s)).stream().mapToInt(t -> t).sum();
    }

    // ---- plays

    private int[][] played(int way, int rounds, Letter without) {
        int[][] have = copy(rows);
        List<Letter> letters = letters(way, size);
        int last = Math.min(rounds, letters.get(letters.size() - 1).round + 1);
        for (int r = 0; r < last; r++) {
            int[][] atBegin = copy(have);
            for (Letter l : letters) {
                if (l.round != r || l.equals(without)) continue;
                for (int p = l.first; p < l.end; p++) {
                    int what = atBegin[l.from][p];
                    int had = have[l.to][p];
                    have[l.to][p] = l.kind == Kind.SETS ? what
                        : l.kind == Kind.ADDS ? mixed(had, what) : mixed(what, had);
                }
            }
        }
        return have;
    }

    private int mixed(int a, int b) {
        return rules[0] == 0 ? (a + b) % 997 : rules[0] == 1 ? (a > b ? a : b) : (a * 31 + b) % 997;
    }

    private int otherRows(int way, Letter without) {
        int[][] a = played(way, Integer.MAX_VALUE, null);
        int[][] b = played(way, Integer.MAX_VALUE, without);
        int set = 0;
        for (int m = 0; m < many; m++) if (!Arrays.equals(a[m], b[m])) set += 1 << m;
        return set;
    }

    private int otherNumbers(int way, Letter without) {
        int[][] a = played(way, Integer.MAX_VALUE, null);
        int[][] b = played(way, Integer.MAX_VALUE, without);
        int found = 0;
        for (int m = 0; m < many; m++) for (int p = 0; p < size; p++) if (a[m][p] != b[m][p]) found++;
        return found;
    }

    // ---- helpers

    private boolean noMachine(int machine) {
        return machine < 0 || machine >= many;
    }

    private boolean noPlace(int place) {
        return place < 0 || place >= size;
    }

    private static boolean noWay(int way) {
        return way < 0 || way > 3;
    }

    private static String line(int one, int other) {
        return Math.min(one, other) + "-" + Math.max(one, other);
    }

    private static int[][] copy(int[][] source) {
        return Arrays.stream(source).map(int[]::clone).toArray(int[][]::new);
    }
}
