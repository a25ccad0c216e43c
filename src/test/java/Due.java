/** Counts and prints the answers that are not the ones that are due. */
final class Due {
    private static int asked;
    private static int wrong;
    private static String sentence = "";

    private Due() {
    }

    /** The document's words that the answers after this one are about. */
    static void says(String words) {
        sentence = "[" + words + "] ";
    }

    static void is(String call, long got, long want) {
        asked++;
        if (got != want) {
            wrong++;
            System.out.println(sentence + call + " answered " + got + ", due is " + want);
        }
    }

    static void holds(String what, boolean is) {
        is(what, is ? 1 : 0, 1);
    }

    /** To be called last: ends with exit code 1 if an answer was wrong. */
    static void end() {
        System.out.println(asked + " answers looked at, " + wrong + " wrong");
        if (wrong > 0 || asked == 0) {
            System.exit(1);
        }
    }

    /** Feeds a text, and makes a town of it. */
    static int town(DayKnown x, String text) {
        for (int i = 0; i < text.length(); i++) {
            x.feed(text.charAt(i));
        }
        return x.town();
    }

    /** A new object with the town of a text. */
    static DayKnown in(String text) {
        DayKnown x = new DayKnown();
        town(x, text);
        return x;
    }

    /** An object with the town of a text (none, if it is empty), and people: the kind and the v of each. */
    static DayKnown people(String text, int... kindsAndVs) {
        DayKnown x = text.isEmpty() ? new DayKnown() : in(text);
        for (int i = 0; i + 1 < kindsAndVs.length; i += 2) {
            x.person(kindsAndVs[i], kindsAndVs[i + 1]);
        }
        return x;
    }
}
