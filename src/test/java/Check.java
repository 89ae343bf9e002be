/** Collects the answers that are not as due, and ends the program with exit code 1 if there are any. */
final class Check {
    // A broken program can answer wrongly a million times; the first ones tell enough.
    private static final int SHOWN = 50;

    private static int wrong = 0;
    private static int asked = 0;

    private Check() {
    }

    static void due(String call, int got, int want) {
        asked++;
        if (got != want) {
            wrong++;
            show(call + " answered " + got + ", due is " + want);
        }
    }

    private static void show(String line) {
        if (wrong <= SHOWN) {
            System.out.println(line);
        }
    }

    static void finish() {
        System.out.println(asked + " answers looked at, " + wrong + " wrong");
        if (asked == 0 || wrong != 0) {
            System.exit(1);
        }
    }
}
