/** Compares answers with those that are due, prints the wrong ones and ends the program. */
final class Due {
    private static String about = "";
    private static int looked = 0;
    private static int wrong = 0;

    private Due() {
    }

    /** The sentence of the document that the answers looked at from here on belong to. */
    static void sentence(String where, String words) {
        about = where + " \"" + words + "\": ";
    }

    static void due(String call, long got, long want) {
        looked++;
        if (got != want) {
            complain(call + " answered " + got + ", due is " + want);
        }
    }

    static void due(String call, boolean got, boolean want) {
        due(call, got ? 1L : 0L, want ? 1L : 0L);
    }

    static void dueText(String what, String got, String want) {
        looked++;
        if (!got.equals(want)) {
            int same = 0;
            while (same < got.length() && same < want.length() && got.charAt(same) == want.charAt(same)) {
                same++;
            }
            complain(what + " has ..." + near(got, same) + "..., due is ..." + near(want, same) + "...");
        }
    }

    static boolean hasWrong() {
        return wrong != 0;
    }

    static void end() {
        System.out.println(looked + " answers looked at, " + wrong + " not as due");
        System.exit(wrong == 0 ? 0 : 1);
    }

    // A whole text may be thousands of letters long.
    private static String near(String text, int place) {
        return text.substring(Math.max(0, place - 30), Math.min(text.length(), place + 30));
    }

    private static void complain(String text) {
        wrong++;
        System.out.println(about + text);
    }
}
