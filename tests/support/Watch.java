/** Ends a test that does not end by itself: a call that goes on for ever is a fault, too. */
final class Watch {
    private static final long MILLISECONDS = 240_000;

    private Watch() {
    }

    static void begin(String name) {
        Thread watch = new Thread(() -> {
            try {
                Thread.sleep(MILLISECONDS);
            } catch (InterruptedException e) {
                return;
            }
            System.out.println(name + ": a call does not end");
            Runtime.getRuntime().halt(1);
        });
        watch.setDaemon(true);
        watch.start();
    }
}
