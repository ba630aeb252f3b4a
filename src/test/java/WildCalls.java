import com.sun.management.ThreadMXBean;
import java.lang.management.ManagementFactory;
import java.lang.reflect.InvocationTargetException;
import java.lang.reflect.Method;
import java.util.ArrayList;
import java.util.Arrays;
import java.util.List;

/** Any numbers in any state: no call throws, what is refused or only asks changes nothing, no call makes objects. */
public final class WildCalls {
    private static final int[] NUMBERS = {
        Integer.MIN_VALUE, -997, -1, 0, 1, 2, 4, 8, 9, 12, 99, 144, 997, Integer.MAX_VALUE};
    // An object is used for at most 512 calls: some to fill it, these, and some to see what has become of it.
    private static final int CALLS_AT_ONCE = 150;
    private static final List<String> CHANGING = List.of("machines", "put", "rule", "slow", "image", "restore");

    private WildCalls() {
    }

    public static void main(String[] args) throws ReflectiveOperationException {
        int[][] shapes = {{2, 1}, {2, 12}, {5, 3}, {8, 12}, {9, 1}, {9, 12}};
        for (int[] shape : shapes) {
            for (Method m : SumsForAll.class.getMethods()) {
                if (m.getDeclaringClass() == SumsForAll.class) {
                    callWithAll(m, shape);
                }
            }
        }
        objectsMade();
        Check.finish();
    }

    private static SumsForAll filled(int[] shape) {
        SumsForAll x = new SumsForAll();
        x.machines(shape[0], shape[1]);
        x.rule(0, 2);
        for (int m = 0; m < shape[0]; m++) {
            for (int p = 0; p < shape[1]; p++) {
                x.put(m, p, (m * 131 + p * 17 + 5) % 997);
            }
        }
        x.slow(0, 1, 4);
        return x;
    }

    private static void callWithAll(Method m, int[] shape) throws ReflectiveOperationException {
        List<Integer> before = seen(filled(shape), shape);
        int all = (int) Math.pow(NUMBERS.length, m.getParameterCount());
        SumsForAll x = filled(shape);
        for (int i = 0; i < all; i++) {
            Object[] numbers = numbersOf(m, i);
            String call = m.getName() + Arrays.toString(numbers);
            boolean mayChange = answer(x, m, numbers, call) >= 0 && CHANGING.contains(m.getName());
            boolean last = i % CALLS_AT_ONCE == 0 || i == all - 1 || CHANGING.contains(m.getName());
            if (last && !mayChange) {
                Check.due(call + " and those ahead of it change nothing", seen(x, shape).equals(before) ? 1 : 0, 1);
            }
            if (last) {
                x = filled(shape);
            }
        }
    }

    /** The i-th of all rows of numbers that a call can be given. */
    private static Object[] numbersOf(Method m, int i) {
        Object[] numbers = new Object[m.getParameterCount()];
        for (int j = 0, rest = i; j < numbers.length; j++, rest /= NUMBERS.length) {
            numbers[j] = NUMBERS[rest % NUMBERS.length];
        }
        return numbers;
    }

    private static int answer(SumsForAll x, Method m, Object[] numbers, String call) throws IllegalAccessException {
        try {
            int answer = (Integer) m.invoke(x, numbers);
            Check.due(call + " answers a number or a refusal", answer >= SumsForAll.NONE ? 1 : 0, 1);
            return answer;
        } catch (InvocationTargetException thrown) {
            Check.due(call + " threw " + thrown.getCause(), 1, 0);
            return 0;
        }
    }

    /** All that can be seen of the state without changing it. */
    private static List<Integer> seen(SumsForAll x, int[] shape) {
        List<Integer> all = new ArrayList<>();
        for (int what = 0; what < 7; what++) {
            all.add(x.count(what));
        }
        for (int m = 0; m < shape[0]; m++) {
            for (int p = 0; p < shape[1]; p++) {
                all.add(x.at(m, p));
            }
        }
        for (int w = 0; w < 4; w++) {
            all.add(x.way(w, 3));
        }
        return all;
    }

    private static void objectsMade() {
        ThreadMXBean threads = (ThreadMXBean) ManagementFactory.getThreadMXBean();
        SumsForAll x = filled(new int[] {9, 12});
        long id = Thread.currentThread().getId();
        dearCalls(x);
        long before = threads.getThreadAllocatedBytes(id);
        dearCalls(x);
        long made = threads.getThreadAllocatedBytes(id) - before;
        // What asking for the count itself makes is some hundred bytes; a new row each call would be far more.
        Check.due("bytes made by dear calls: " + made, made < 4096 ? 1 : 0, 1);
    }

    private static void dearCalls(SumsForAll x) {
        for (int i = 0; i < 20; i++) {
            x.worst(i % 4, 0);
            x.from(i % 4, 0);
            x.best(99, 0);
            x.lost(i % 4, 0, 0);
            x.same(i % 4, 1);
            x.alike(0, i % 4);
            x.way(i % 4, 5);
            x.image(i % 2);
            x.restore(i % 2);
        }
    }
}
