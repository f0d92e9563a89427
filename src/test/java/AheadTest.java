/** Promises 20 to 22: runsDown, tension, digest. */
public final class AheadTest {
  private static final Class<?> ARGUMENT = IllegalArgumentException.class;

  public static void main(String[] args) {
    runsDown();
    runsDownCoupled();
    runsDownChangesNothing();
    tension();
    digest();
    digestTellsAll();
    Check.end("AheadTest");
  }

  private static void runsDown() {
    BirdParlour x = new BirdParlour();
    Check.due("20: no springs", x.runsDown(1), 0);
    for (int most : new int[] {0, -1, 2001, Integer.MIN_VALUE, Integer.MAX_VALUE}) {
      Check.refused(x, "20: runsDown(" + most + ")", ARGUMENT, () -> x.runsDown(most));
    }
    x.run(4);
    Check.due("20: no springs, later", x.runsDown(2000), 4);
    x.addSpring(1);
    x.addSpring(1);
    Check.due("20: hold 0", x.runsDown(1), 4);
    // weak and slow: 1 a tick
    x.wind(0, 30);
    x.wind(1, 50);
    Check.due("20: just so many ticks", x.runsDown(50), 54);
    Check.due("20: one too few", x.runsDown(49), -1);
    Check.due("20: at most", x.runsDown(2000), 54);
    x.brake(1, true);
    Check.due("20: a braked one counts not", x.runsDown(30), 34);
    x.brake(0, true);
    Check.due("20: all braked", x.runsDown(1), 4);
    x.brake(0, false);
    x.run(30);
    Check.due("20: as told, the tick", x.count(0), 34);
    Check.due("20: as told, it holds", x.spring(0, 1), 0);
    Check.due("20: now", x.runsDown(1), 34);
  }

  private static void runsDownCoupled() {
    BirdParlour x = new BirdParlour();
    x.addSpring(1);
    x.addSpring(1);
    x.wind(1, 100);
    x.brake(1, true);
    x.couple(0, 1, true);
    Check.due("20: holds 0 now, ahead of the couplings", x.runsDown(2000), 0);
    x.brake(0, true);
    x.run(1);
    Check.due("20: it was fed", x.spring(0, 1), 10);
    x.brake(0, false);
    int told = x.runsDown(2000);
    int tick = 1;
    while (x.spring(0, 1) != 0 && tick < 400) {
      x.run(1);
      tick++;
    }
    Check.due("20: fed by a braked one", told, tick);
  }

  private static void runsDownChangesNothing() {
    BirdParlour x = new BirdParlour();
    BirdParlour y = new BirdParlour();
    for (BirdParlour z : new BirdParlour[] {x, y}) {
      z.addSpring(40);
      z.addSpring(9);
      z.wind(0, 30000);
      z.couple(0, 1, true);
      z.addBird(0, 3, 10, 7, 3);
      z.addBird(1, 2, 33, 12, 1);
      z.point(0, 1, 4, 90);
      z.point(0, 1, 9, 10);
      z.pin(0, 3, 3);
      z.pin(1, 0, 1);
      z.run(20);
    }
    long before = x.digest();
    for (int most : new int[] {1, 20, 300, 2000}) {
      x.runsDown(most);
      Check.due("20: nothing is changed", x.digest(), before);
    }
    for (int k = 0; k < 20; k++) {
      Check.due("20: nor what comes", x.run(7), y.run(7));
      x.runsDown(2000);
      Check.due("20: nor what comes", x.digest(), y.digest());
    }
  }

  private static void tension() {
    BirdParlour x = new BirdParlour();
    Check.dueDouble("21: of none", x.tension(), 0.0);
    x.addSpring(1);
    Check.dueDouble("21: of one that holds 0", x.tension(), 0.0);
    x.wind(0, 12345);
    Check.dueDouble("21: of one", x.tension(), 12.345);
    x.addSpring(1);
    x.addSpring(1);
    x.wind(1, 200000);
    Check.dueDouble("21: of three", x.tension(), 212345.0 / 3000.0);
    x.addSpring(1);
    x.wind(2, 200000);
    x.wind(3, 200000);
    x.wind(0, 200000);
    Check.dueDouble("21: the most", x.tension(), 200.0);
  }

  private static long mix(long d, int... numbers) {
    long mixed = d;
    for (int x : numbers) {
      mixed = mixed * 31 + x;
    }
    return mixed;
  }

  private static void digest() {
    BirdParlour x = new BirdParlour();
    long d = mix(449, 0, 0, 0, 0, 0, 0);
    Check.due("22: of an empty parlour", x.digest(), d);
    x.addSpring(5);
    x.addSpring(50);
    x.wind(1, 200000);
    x.couple(0, 1, true);
    x.brake(0, true);
    x.addBird(1, 2, 10, 3, 4);
    x.tune(0, 4, 1);
    x.point(0, 2, 3, 11);
    x.pin(0, 3, 4);
    x.pin(0, 3, 1);
    x.run(1);
    // 20000 to the first spring; 50 * 180000 / (200 * 14) is over 400; gone 3
    int held = 180000 - 400 - 20;
    d = mix(449, 1, 2, 1, 1, 2, 20000 + held);
    d = mix(d, 5, 20000, 0, 0, 1, 0, 10);
    d = mix(d, 50, held, 400, 400, 0, 1, 10 + 2 + 2);
    d = mix(d, 1, 2, 10, 3, 4, 3, 1, 2, 3, 2);
    d = mix(d, 60, 62, 64, 66, 1, 70);
    d = mix(d, 0, 0, 11);
    d = mix(d, 1, 0, 1, 62);
    d = mix(d, 1, 0, 4, 1);
    Check.due("22: of a small one", x.digest(), d);
    Check.due("22: again", x.digest(), d);
  }

  private static BirdParlour withCams(int pins) {
    BirdParlour x = new BirdParlour();
    x.addSpring(30);
    x.wind(0, 150000);
    x.addBird(0, 1, 96, 12, 1);
    x.addBird(0, 1, 9, 12, 5);
    for (int k = 0; k < 24; k++) {
      x.point(1, k % 3, k / 3, 5 * k % 101);
    }
    for (int k = 0; k < pins; k++) {
      x.pin(0, 4 * k, k % 6);
      x.pin(1, k % 9, k % 6);
    }
    return x;
  }

  private static void digestTellsAll() {
    for (int ticks = 1; ticks <= 2; ticks++) {
      BirdParlour x = withCams(24);
      x.run(ticks);
      Check.due("22: of all that is told", x.digest(), told(x));
    }
    for (int ticks = 1; ticks <= 40; ticks++) {
      BirdParlour x = withCams(1);
      x.run(ticks);
      Check.due("22: of all that is told", x.digest(), told(x));
    }
  }

  private static long told(BirdParlour x) {
    long d = 449;
    for (int what = 0; what <= 5; what++) {
      d = mix(d, x.count(what));
    }
    for (int spring = 0; spring < x.count(1); spring++) {
      for (int what = 0; what <= 6; what++) {
        d = mix(d, x.spring(spring, what));
      }
    }
    for (int bird = 0; bird < x.count(2); bird++) {
      for (int what = 0; what <= 9; what++) {
        d = mix(d, x.bird(bird, what));
      }
      for (int lever = 0; lever < 6; lever++) {
        int note = x.tune(bird, lever, 0);
        x.tune(bird, lever, note);
        d = mix(d, note);
      }
      for (int cam = 0; cam < 3; cam++) {
        d = mix(d, x.lift(bird, cam, -1));
      }
    }
    int kept = Math.min(250, x.count(4));
    for (int index = 0; index < kept; index++) {
      for (int what = 0; what <= 3; what++) {
        d = mix(d, x.sung(index, what));
      }
    }
    return d;
  }
}
