import java.lang.reflect.Constructor;
import java.lang.reflect.Field;
import java.lang.reflect.Method;
import java.lang.reflect.Modifier;
import java.util.Arrays;
import java.util.Set;
import java.util.TreeSet;

/** The public face as the document writes it: every constant with its value, the constructor and every method. */
public final class Face {
    private static final String[] CONSTANTS = {"UNKNOWN", "OUTSIDE", "STATE", "FULL", "NO", "NONE"};
    private static final int[] VALUES = {-1, -2, -3, -4, -5, -6};

    /** The method of promise 2 first; in the document's order, each with how many numbers it takes. */
    private static final String[] METHODS = {
        "machines 2", "put 3", "rule 2", "slow 3", "at 2", "way 2", "letter 3", "behind 4", "same 2", "alike 2",
        "best 2", "from 2", "lost 3", "worst 2", "comes 4", "image 1", "restore 1", "count 1"};

    private Face() {
    }

    public static void main(String[] args) throws ReflectiveOperationException {
        theClass();
        constants();
        constructor();
        methods();
        nothingElse();
        constantsAreWhatCallsAnswer();
        Check.finish();
    }

    private static void dueTrue(int promise, String what, boolean holds) {
        Check.due(promise, "the public face", what, holds ? 1 : 0, 1);
    }

    private static void theClass() {
        Class<?> c = SumsForAll.class;
        dueTrue(1, "public and final", Modifier.isPublic(c.getModifiers()) && Modifier.isFinal(c.getModifiers()));
        dueTrue(1, "without a package", c.getPackageName().isEmpty());
    }

    private static void constants() throws ReflectiveOperationException {
        for (int i = 0; i < CONSTANTS.length; i++) {
            Field f = SumsForAll.class.getDeclaredField(CONSTANTS[i]);
            int modifiers = Modifier.PUBLIC | Modifier.STATIC | Modifier.FINAL;
            dueTrue(1, f + " is public static final int", f.getModifiers() == modifiers && f.getType() == int.class);
            Check.due(1, "the constants", CONSTANTS[i], f.getInt(null), VALUES[i]);
        }
    }

    private static void constructor() {
        Constructor<?>[] all = SumsForAll.class.getDeclaredConstructors();
        dueTrue(1, "one constructor", all.length == 1);
        dueTrue(1, "it is public", Modifier.isPublic(all[0].getModifiers()));
        Check.due(1, "the public face", "what the constructor takes", all[0].getParameterCount(), 0);
    }

    private static void methods() throws ReflectiveOperationException {
        for (int i = 0; i < METHODS.length; i++) {
            String[] told = METHODS[i].split(" ");
            Class<?>[] numbers = new Class<?>[Integer.parseInt(told[1])];
            Arrays.fill(numbers, int.class);
            Method m = SumsForAll.class.getDeclaredMethod(told[0], numbers);
            dueTrue(i + 2, m + " is public, not static", m.getModifiers() == Modifier.PUBLIC);
            dueTrue(i + 2, m + " answers an int", m.getReturnType() == int.class);
        }
    }

    private static void nothingElse() {
        Set<String> fields = new TreeSet<>();
        for (Field f : SumsForAll.class.getDeclaredFields()) {
            if (!Modifier.isPrivate(f.getModifiers())) {
                fields.add(f.getName());
            }
        }
        dueTrue(1, "no other field: " + fields, fields.equals(Set.of(CONSTANTS)));
        Set<String> methods = new TreeSet<>();
        int found = 0;
        for (Method m : SumsForAll.class.getDeclaredMethods()) {
            if (!Modifier.isPrivate(m.getModifiers())) {
                methods.add(m.getName() + " " + m.getParameterCount());
                found++;
            }
        }
        dueTrue(1, "no other method: " + methods, methods.equals(Set.of(METHODS)) && found == METHODS.length);
    }

    /** The other tests ask by the constants' names; here the bare numbers stand. */
    private static void constantsAreWhatCallsAnswer() {
        SumsForAll x = new SumsForAll();
        Check.due(6, "UNKNOWN -1 (no such MACHINE, WAY)", "at(4, 0)", x.at(4, 0), -1);
        Check.due(7, "UNKNOWN -1 (no such MACHINE, WAY)", "way(4, 0)", x.way(4, 0), -1);
        Check.due(3, "OUTSIDE -2 (another number is not as told)", "put(0, 0, 997)", x.put(0, 0, 997), -2);
        Check.due(18, "STATE -3", "restore(0)", x.restore(0), -3);
        Check.due(6, "NONE -6", "at(0, 4)", x.at(0, 4), -6);
        Check.due(8, "NONE -6", "letter(3, 6, 0)", x.letter(3, 6, 0), -6);
        Check.due(13, "NONE -6", "from(0, 0)", x.from(0, 0), -6);
    }
}
