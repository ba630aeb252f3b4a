/** Counts the answers that are not as due. */
final class Check {
    private static int asked = 0;
    private static int wrong = 0;

    private Check() {
    }

    static void due(String call, long got, long want) {
        asked++;
        if (got != want) {
            wrong++;
            System.out.println(call + " answered " + got + ", due is " + want);
        }
    }

    /** A sentence of the document, by the number of the promise for which it is asked. */
    static void due(int promise, String sentence, String call, long got, long want) {
        due("promise " + promise + " (" + sentence + "): " + call, got, want);
    }

    static boolean allAsDue() {
        return wrong == 0;
    }

    static void finish() {
        System.out.println(asked + " answers, " + wrong + " not as due");
        System.exit(wrong == 0 && asked > 0 ? 0 : 1);
    }
}
