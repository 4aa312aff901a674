/** Counts answers that are not as due; a test's main method ends with close(). */
final class Check {
    private static int asDue = 0;
    private static int wrong = 0;

    private Check() {
    }

    static void due(String call, long got, long want) {
        if (got == want) {
            asDue++;
            return;
        }
        wrong++;
        if (wrong <= 40) System.out.println(call + " answered " + got + ", due is " + want);
    }

    static void holds(String what, boolean it) {
        due(what, it ? 1 : 0, 1);
    }

    static int wrongs() {
        return wrong;
    }

    static void close() {
        System.out.println(asDue + " answers as due, " + wrong + " not");
        if (wrong > 0 || asDue == 0) System.exit(1);
    }

    /** A text on THE TAPE, 8 bytes a call. */
    static void type(SheGoesOut x, String text) {
        for (int from = 0; from < text.length(); from += 8) {
            String piece = text.substring(from, Math.min(text.length(), from + 8));
            long w = 0;
            for (int i = 0; i < piece.length(); i++) w = w << 8 | piece.charAt(i);
            x.type(w, piece.length());
        }
    }

    static int land(SheGoesOut x, String text) {
        type(x, text);
        return x.land();
    }

    static int rules(SheGoesOut x, String text) {
        type(x, text);
        return x.rules();
    }
}
