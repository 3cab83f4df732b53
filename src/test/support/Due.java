/** Counts the calls whose answer is not the one that is due, and prints them. */
final class Due {
    /** A class that is wrong everywhere would else fill the log. */
    private static final int MOST_PRINTED = 500;
    private static final long MOST_MINUTES = 5;

    private long asked = 0;
    private long wrong = 0;

    Due() {
        Thread watch = new Thread(Due::endLate);
        watch.setDaemon(true);
        watch.start();
    }

    /** A call that never ends is wrong too. */
    private static void endLate() {
        try {
            Thread.sleep(MOST_MINUTES * 60_000);
        } catch (InterruptedException interrupted) {
            return;
        }
        System.out.println("not at an end after " + MOST_MINUTES + " minutes");
        Runtime.getRuntime().halt(1);
    }

    void is(String call, long got, long want) {
        asked++;
        if (got != want) {
            if (wrong < MOST_PRINTED) {
                System.out.println(call + (got == Call.THREW ? " threw" : " answered " + got) + ", due is " + want);
            }
            wrong++;
        }
    }

    void holds(String what, boolean yes) {
        is(what, yes ? 1 : 0, 1);
    }

    void end() {
        System.out.println(asked + " answers looked at, " + wrong + " not as due");
        if (wrong != 0 || asked == 0) {
            System.exit(1);
        }
    }
}
