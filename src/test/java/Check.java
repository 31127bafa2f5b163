/** Counts the answers that are as due, and prints those that are not. */
final class Check {
    private final String title;
    private int answers = 0;
    private int wrong = 0;

    Check(String title) {
        this.title = title;
    }

    void due(String call, long got, long want) {
        answers++;
        if (got != want) {
            say(call + " answered " + got + ", due is " + want);
        }
    }

    void dueDouble(String call, double got, double want) {
        answers++;
        if (Double.doubleToLongBits(got) != Double.doubleToLongBits(want)) {
            say(call + " answered " + got + ", due is " + want);
        }
    }

    void dueText(String call, String got, String want) {
        answers++;
        if (!got.equals(want)) {
            say(call + " answered " + got + ", due is " + want);
        }
    }

    void dueThrow(String call, Class<? extends RuntimeException> want, Runnable run) {
        answers++;
        Class<?> got = null;
        try {
            run.run();
        } catch (RuntimeException e) {
            got = e.getClass();
        }
        if (got != want) {
            say(call + " threw " + got + ", due is " + want);
        }
    }

    void say(String fault) {
        wrong++;
        System.out.println(title + ": " + fault);
    }

    void end() {
        System.out.println(title + ": " + answers + " answers looked at, " + wrong + " wrong");
        if (wrong > 0) {
            System.exit(1);
        }
    }
}
