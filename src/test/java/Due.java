/** Counts the answers that are as due and prints those that are not. */
final class Due {
    private static final int MOST_PRINTED = 40;
    private static final long MOST_SECONDS = 120;
    private final String name;
    private int passed = 0;
    private int failed = 0;

    Due(String name) {
        this.name = name;
        watch();
    }

    /** A program that does not come to an end has failed too. */
    private void watch() {
        Thread watcher = new Thread(() -> {
            try {
                Thread.sleep(MOST_SECONDS * 1000);
            } catch (InterruptedException e) {
                return;
            }
            System.out.println(name + " did not end within " + MOST_SECONDS + " seconds");
            Runtime.getRuntime().halt(1);
        });
        watcher.setDaemon(true);
        watcher.start();
    }

    void due(String call, Object got, Object want) {
        if (got.equals(want)) {
            passed++;
            return;
        }
        failed++;
        if (failed <= MOST_PRINTED) {
            System.out.println(name + ": " + call + " answered " + got + ", due is " + want);
        }
    }

    int looks() {
        return passed + failed;
    }

    boolean isClean() {
        return failed == 0;
    }

    void end() {
        System.out.println(name + ": " + passed + " passed, " + failed + " failed");
        if (failed != 0 || passed == 0) {
            System.exit(1);
        }
    }
}
