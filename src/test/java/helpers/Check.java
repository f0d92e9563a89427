/** Counts the answers that are not as due, and ends a test. */
final class Check {
  private static int asked = 0;
  private static int wrong = 0;

  private Check() {
  }

  static void due(String call, long got, long want) {
    asked++;
    if (got != want) {
      fault(call + " answered " + got + ", due is " + want);
    }
  }

  static void due(String call, boolean got, boolean want) {
    due(call, got ? 1 : 0, want ? 1 : 0);
  }

  static void dueDouble(String call, double got, double want) {
    asked++;
    if (Double.compare(got, want) != 0) {
      fault(call + " answered " + got + ", due is " + want);
    }
  }

  /** The call throws just this exception, and nothing has changed behind it. */
  static void refused(BirdParlour x, String call, Class<?> want, Runnable run) {
    asked++;
    long before = seen(x);
    Class<?> got = null;
    try {
      run.run();
    } catch (RuntimeException e) {
      got = e.getClass();
    }
    if (got != want) {
      fault(call + " throws " + got + ", due is " + want);
    }
    if (seen(x) != before) {
      fault(call + " has changed the parlour");
    }
  }

  static void fault(String text) {
    wrong++;
    System.out.println(text);
  }

  /** A number made of what three calls tell: an object has 512 calls, so no more are asked. */
  private static long seen(BirdParlour x) {
    return (x.digest() * 31 + x.longest()) * 31 + x.runsDown(300);
  }

  static void end(String test) {
    System.out.println(test + ": " + asked + " answers, " + wrong + " not as due");
    if (wrong != 0 || asked == 0) {
      System.exit(1);
    }
  }
}
