/** Counts the answers that are not due, and tells them. */
final class Due {
    private static int wrong = 0;
    private static int looked = 0;
    private static String sentence = "";

    private Due() {
    }

    /** What follows looks at this sentence of the document. */
    static void begin(String name) {
        sentence = name + ": ";
    }

    static void due(String what, long got, long want) {
        looked++;
        if (got != want) {
            wrong++;
            System.out.println(sentence + what + ": answered " + got + ", due is " + want);
        }
    }

    static int answers() {
        return looked;
    }

    /** To be the last call of a main: exit code 1 if an answer was not due. */
    static void end(String name) {
        System.out.println(name + ": " + looked + " answers, " + wrong + " not as due");
        if (wrong != 0 || looked == 0) {
            System.exit(1);
        }
    }

    static EclipsesKept fed(EclipsesKept x, String text) {
        for (int k = 0; k < text.length(); k++) {
            x.feed(text.charAt(k));
        }
        return x;
    }

    static int archived(EclipsesKept x, String text) {
        return fed(x, text).archive();
    }
}
