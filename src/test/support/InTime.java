/**
 * Runs the main method of the test it is given, and ends it as failed if it
 * takes too long: a call that never returns must fail its test, not hold it up.
 */
public final class InTime {
  private static final int LIMIT_SECONDS = 180;

  private InTime() {
  }

  public static void main(String[] args) throws Exception {
    Thread watch = new Thread(InTime::endWhenLate);
    watch.setDaemon(true);
    watch.start();
    Class<?> test = Class.forName(args[0]);
    test.getMethod("main", String[].class).invoke(null, (Object) new String[0]);
  }

  private static void endWhenLate() {
    try {
      Thread.sleep(LIMIT_SECONDS * 1000L);
    } catch (InterruptedException e) {
      // Nothing interrupts this thread; were it so, the test would be late too.
    }
    System.out.println("not ended after " + LIMIT_SECONDS + " seconds");
    Runtime.getRuntime().halt(1);
  }
}
