/** Counts the answers that are not as due. */
final class Due {
    private static int asked = 0;
    private static int wrong = 0;

    private Due() {
    }

    static void is(String call, long got, long want) {
        asked++;
        if (got != want) {
            wrong++;
            System.out.println(call + " answered " + got + ", due is " + want);
        }
    }

    /** Feeds a text, and answers what pass() does. */
    static int read(NinthStep x, String text) {
        for (int i = 0; i < text.length(); i++) {
            is("feed in \"" + text + "\"", x.feed(text.charAt(i)), i + 1);
        }
        return x.pass();
    }

    static void passIs(NinthStep x, String text, int want) {
        is("pass of \"" + text + "\"", read(x, text), want);
    }

    static NinthStep made(String text) {
        NinthStep x = new NinthStep();
        if (read(x, text) < 1) {
            is("made of \"" + text + "\"", 0, 1);
        }
        return x;
    }

    static boolean anyWrong() {
        return wrong != 0;
    }

    static void end() {
        System.out.println(asked + " answers asked, " + wrong + " not as due");
        if (wrong != 0) {
            System.exit(1);
        }
    }
}
