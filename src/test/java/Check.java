/** What the tests share: a count of wrong answers, and ways to make stores. */
final class Check {
    static final long BAD = -1, STATE = -2, FULL = -3, UNLIKE = -4, OVER = -5, NONE = -9;
    private static int wrong = 0;
    private static String place = "";

    private Check() {
    }

    /** Names the promise that the next answers belong to. */
    static void at(String promise) {
        place = promise;
    }

    static void due(String call, long got, long want) {
        if (got != want) {
            wrong++;
            System.out.println(place + ": " + call + " answered " + got + ", due is " + want);
        }
    }

    static void finish() {
        System.out.println(wrong == 0 ? "all answers are as due" : wrong + " answers are not as due");
        if (wrong != 0) {
            System.exit(1);
        }
    }

    static void type(SideVersions x, String text) {
        for (int i = 0; i < text.length(); i++) {
            x.type(text.charAt(i));
        }
    }

    /** What tells() answers to a text on a new object. */
    static int told(String text) {
        SideVersions x = new SideVersions();
        type(x, text);
        return x.tells();
    }

    /** A store that has been told a text without fault. */
    static SideVersions store(String text) {
        SideVersions x = new SideVersions();
        type(x, text);
        int items = x.tells();
        due("tells() of '" + text + "' is no fault", items < 0 ? 0 : 1, 1);
        return x;
    }
}
