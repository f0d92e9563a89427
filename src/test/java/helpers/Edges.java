import java.lang.reflect.InvocationTargetException;
import java.lang.reflect.Method;

/** Runs tests of which each holds the class to one sentence of the document that names an edge. */
final class Edges {
  static final Class<?> INDEX = IndexOutOfBoundsException.class;
  static final Class<?> ARGUMENT = IllegalArgumentException.class;
  static final Class<?> STATE = IllegalStateException.class;

  private static String test = "";
  private static int faults = 0;

  private Edges() {
  }

  interface Maker {
    BirdParlour make();
  }

  interface Call {
    void on(BirdParlour x);
  }

  /** Runs every method of the class that bears the words of a sentence. */
  static void runAll(Class<?> tests) throws IllegalAccessException {
    int passed = 0;
    int failed = 0;
    for (Method method : tests.getDeclaredMethods()) {
      Says says = method.getAnnotation(Says.class);
      if (says != null) {
        method.setAccessible(true);
        if (passes(method)) {
          passed++;
        } else {
          failed++;
          System.out.println("FAILED  " + method.getName() + ": " + says.value());
        }
      }
    }
    System.out.println(tests.getName() + ": " + passed + " tests passed, " + failed + " failed");
    if (failed != 0 || passed == 0) {
      System.exit(1);
    }
  }

  private static boolean passes(Method method) throws IllegalAccessException {
    test = method.getName();
    faults = 0;
    try {
      method.invoke(null);
    } catch (InvocationTargetException e) {
      fault("throws " + e.getCause());
    }
    return faults == 0;
  }

  private static void fault(String text) {
    faults++;
    System.out.println(test + ": " + text);
  }

  static void due(String call, long got, long want) {
    if (got != want) {
      fault(call + " answered " + got + ", due is " + want);
    }
  }

  static void due(String call, boolean got, boolean want) {
    if (got != want) {
      fault(call + " answered " + got + ", due is " + want);
    }
  }

  static void dueDouble(String call, double got, double want) {
    if (Double.compare(got, want) != 0) {
      fault(call + " answered " + got + ", due is " + want);
    }
  }

  /** Each of the calls throws just this exception. */
  static void refused(Class<?> want, Maker maker, Call... calls) {
    for (int k = 0; k < calls.length; k++) {
      BirdParlour x = maker.make();
      Class<?> got = thrownBy(x, calls[k]);
      if (got != want) {
        fault("the call " + k + " throws " + got + ", due is " + want);
      }
    }
  }

  /** Each of the calls is refused, and nothing is different behind it, now or in later ticks. */
  static void changeNothing(Maker maker, Call... calls) {
    for (int k = 0; k < calls.length; k++) {
      BirdParlour x = maker.make();
      if (thrownBy(x, calls[k]) == null) {
        fault("the call " + k + " is not refused");
      }
      dueAlike("the call " + k, x, maker.make());
    }
  }

  private static Class<?> thrownBy(BirdParlour x, Call call) {
    try {
      call.on(x);
    } catch (RuntimeException e) {
      return e.getClass();
    }
    return null;
  }

  /** Both parlours tell the same, now and while ticks go by; some 200 calls of each. */
  static void dueAlike(String call, BirdParlour x, BirdParlour twin) {
    due(call + ": digest", x.digest(), twin.digest());
    due(call + ": longest", x.longest(), twin.longest());
    due(call + ": runsDown", x.runsDown(2000), twin.runsDown(2000));
    for (int bird = 0; bird < Math.min(twin.count(2), 2); bird++) {
      for (int place = 0; place < twin.bird(bird, 2); place++) {
        for (int cam = 0; cam < 3; cam++) {
          due(call + ": lift", x.lift(bird, cam, place), twin.lift(bird, cam, place));
        }
      }
    }
    for (int k = 1; k <= 20; k++) {
      due(call + ": emptySongs", x.emptySongs(), twin.emptySongs());
      due(call + ": run", x.run(k), twin.run(k));
      due(call + ": digest behind ticks", x.digest(), twin.digest());
    }
  }
}
