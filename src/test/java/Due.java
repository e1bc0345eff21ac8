/** What every test of the project uses: it compares answers with those that are due, and ends the test. */
final class Due {
    private static int wrong = 0;
    private static int checked = 0;

    private Due() {
    }

    static void is(String call, int got, int want) {
        checked++;
        if (got != want) {
            wrong++;
            System.out.println(call + " answered " + got + ", due is " + want);
        }
    }

    static void isTrue(String what, boolean holds) {
        is(what, holds ? 1 : 0, 1);
    }

    static boolean anyWrong() {
        return wrong > 0;
    }

    static void write(PoolRenumberer x, String text) {
        for (int i = 0; i < text.length(); i++) {
            x.appendCharacter(text.charAt(i));
        }
    }

    /** Loads a text and leaves an empty one behind. */
    static int load(PoolRenumberer x, String text) {
        write(x, text);
        int answer = x.load();
        x.clearText();
        return answer;
    }

    static PoolRenumberer with(String text) {
        PoolRenumberer x = new PoolRenumberer();
        isTrue("the set-up " + text, load(x, text) >= 0);
        return x;
    }

    static void end() {
        System.out.println(checked + " answers looked at, " + wrong + " wrong");
        if (wrong > 0) {
            System.exit(1);
        }
    }
}
