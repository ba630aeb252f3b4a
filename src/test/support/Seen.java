import java.util.ArrayList;
import java.util.List;

/** What calls tell of an object, number by number, so that two objects can be held side by side. */
final class Seen {
    private Seen() {
    }

    /** The setting and both images; the object is not as it was behind it. */
    static List<Integer> withImages(SumsForAll x) {
        List<Integer> all = setting(x);
        for (int k = 0; k < 2; k++) {
            all.add(x.restore(k));
            all.addAll(setting(x));
        }
        return all;
    }

    /** All but images; as only slow(..) tells a SLOW, and sets it, all of them are 1 behind it. */
    private static List<Integer> setting(SumsForAll x) {
        List<Integer> all = new ArrayList<>();
        for (int what = 0; what < 7; what++) {
            all.add(x.count(what));
        }
        int many = all.get(0);
        int size = all.get(1);
        for (int m = 0; m < many; m++) {
            for (int p = 0; p < size; p++) {
                all.add(x.at(m, p));
            }
        }
        for (int one = 0; one < many; one++) {
            for (int two = one + 1; two < many; two++) {
                all.add(x.slow(one, two, 1));
            }
        }
        return all;
    }
}
