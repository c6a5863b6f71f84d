/** Compares answers with those that are due, and ends a test with exit code 1 if one was wrong. */
final class Checks {
    private static int wrong = 0;
    private static int made = 0;
    /** What the checks that follow belong to; told once, with the first of them that is wrong. */
    private static String belongs = "";

    private Checks() {
    }

    /** The checks from here on belong to these words. */
    static void under(String words) {
        belongs = words;
    }

    static void due(String call, long got, long want) {
        made++;
        if (got != want) {
            wrong++;
            if (!belongs.isEmpty()) {
                System.out.println("-- " + belongs);
                belongs = "";
            }
            System.out.println(call + " answered " + got + ", due is " + want);
        }
    }

    static void holds(String what, boolean isSo) {
        due(what, isSo ? 1 : 0, 1);
    }

    static boolean isAnyWrong() {
        return wrong > 0;
    }

    static int made() {
        return made;
    }

    static void end() {
        System.out.println(made + " checks, " + wrong + " wrong");
        if (wrong > 0) {
            System.exit(1);
        }
    }

    /** Gives the letters of a text to an object, and makes them a volume. */
    static int tell(TwinTreeVolume x, String letters) {
        for (int i = 0; i < letters.length(); i++) {
            x.letter(letters.charAt(i));
        }
        return x.volume();
    }

    /** A new object behind a volume that must come without a fault. */
    static TwinTreeVolume made(String... texts) {
        TwinTreeVolume x = new TwinTreeVolume();
        for (String text : texts) {
            holds("volume " + text, tell(x, text) > 0);
        }
        return x;
    }

    /** Gives numbers to the row. */
    static void row(TwinTreeVolume x, int... numbers) {
        for (int number : numbers) {
            x.row(number);
        }
    }
}
