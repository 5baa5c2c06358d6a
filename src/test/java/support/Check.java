/** Counts the answers that are not as due, and tells each of them. */
public final class Check {
    private static final long MOST_MILLISECONDS = 600_000;

    private final String name;
    private int checks = 0;
    private int wrong = 0;

    public Check(String name) {
        this.name = name;
        Thread watch = new Thread(() -> endIfLate(name));
        watch.setDaemon(true);
        watch.start();
    }

    /** A call that never ends must fail the test, not hold it up for ever. */
    private static void endIfLate(String name) {
        try {
            Thread.sleep(MOST_MILLISECONDS);
        } catch (InterruptedException e) {
            return;
        }
        System.out.println(name + ": a call did not end");
        Runtime.getRuntime().halt(1);
    }

    public void due(String call, long got, long want) {
        checks++;
        if (got != want) {
            wrong++;
            if (wrong <= 40) {
                System.out.println(name + ": " + call + " answered " + got + ", due is " + want);
            }
        }
    }

    public void yes(String what, boolean holds) {
        due(what, holds ? 1 : 0, 1);
    }

    public boolean anyWrong() {
        return wrong > 0;
    }

    /** Ends the program with exit code 1 if one answer was not as due. */
    public void end() {
        System.out.println(name + ": " + checks + " answers, " + wrong + " not as due");
        if (wrong > 0 || checks == 0) {
            System.exit(1);
        }
    }
}
