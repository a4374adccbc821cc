/** A call that never ends must fail its test, not keep it waiting; a test takes some seconds at most. */
final class Watchdog {
  private static final long MOST_MILLISECONDS = 300_000;

  private Watchdog() {
  }

  static void watch() {
    Thread thread = new Thread(Watchdog::bark);
    thread.setDaemon(true);
    thread.start();
  }

  private static void bark() {
    try {
      Thread.sleep(MOST_MILLISECONDS);
    } catch (InterruptedException e) {
      return;
    }
    System.out.println("a call does not end, or the test takes too long");
    Runtime.getRuntime().halt(1);
  }
}
