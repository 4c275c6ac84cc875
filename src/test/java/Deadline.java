/** A call that does not end must fail its test, not hold up all the others. */
final class Deadline {
    private static final long MILLISECONDS = 300_000;

    private Deadline() { }

    static void set() {
        Thread watch = new Thread(Deadline::halt);
        watch.setDaemon(true);
        watch.start();
    }

    private static void halt() {
        try {
            Thread.sleep(MILLISECONDS);
        } catch (InterruptedException e) {
            return;
        }
        System.out.println("not ended after " + MILLISECONDS / 1000 + " seconds");
        System.out.flush();
        Runtime.getRuntime().halt(1);
    }
}
