/** Counts and prints the answers that are not as due; a test ends with finish(). */
final class Due {
    private static int asked = 0;
    private static int wrong = 0;

    private Due() {
    }

    static void due(String call, long got, long want) {
        asked++;
        if (got != want) {
            wrong++;
            System.out.println(call + " answered " + got + ", due is " + want);
        }
    }

    /** Types a text of any length up to the tape's end. */
    static void type(FarthestPays x, String text) {
        for (int from = 0; from < text.length(); from += 8) {
            int to = Math.min(text.length(), from + 8);
            x.type(bytes(text.substring(from, to)), to - from);
        }
    }

    /** Up to 8 bytes as type() takes them. */
    static long bytes(String text) {
        long w = 0;
        for (int i = 0; i < text.length(); i++) {
            w = w << 8 | text.charAt(i);
        }
        return w;
    }

    static int supper(FarthestPays x, String text) {
        type(x, text);
        return x.supper();
    }

    static int guests(FarthestPays x, String text) {
        type(x, text);
        return x.guests();
    }

    /** A new object with a supper and guests. */
    static FarthestPays at(String supper, String guests) {
        FarthestPays x = new FarthestPays();
        if (!supper.isEmpty() && supper(x, supper) < 0 || !guests.isEmpty() && guests(x, guests) < 0) {
            throw new IllegalStateException(supper + " " + guests);
        }
        return x;
    }

    /** The same with laws. */
    static FarthestPays at(String supper, String guests, int who, int ties) {
        FarthestPays x = at(supper, guests);
        x.rule(0, who);
        x.rule(1, ties);
        return x;
    }

    static void finish(String test) {
        System.out.println(test + ": " + asked + " answers, " + wrong + " not as due");
        if (wrong != 0 || asked == 0) {
            System.exit(1);
        }
    }
}
