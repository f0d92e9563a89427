import java.util.Random;

/** Long runs of drawn calls, each answer and some or all digests against the model's. */
public final class ModelTest {
  private static final int RUNS = 400;
  private static final int CALLS = 512;
  private static final int[] WILD = {
    Integer.MIN_VALUE, -100, -2, -1, 0, 1, 3, 4, 5, 7, 8, 12, 13, 20, 21, 24, 50, 51, 87, 88, 95,
    96, 97, 100, 101, 249, 250, 500, 501, 2000, 2001, 200000, 200001, 1 << 29, 1 << 30,
    Integer.MAX_VALUE
  };

  private final Random draw;
  private final BirdParlour x = new BirdParlour();
  private final Model y = new Model();
  // how many of a hundred arguments are drawn from anywhere
  private final int wild;
  private final int mostTicks;
  // behind how many calls the digest is asked; an object has 512 calls, these among them
  private final int digestEach;
  private int calls;

  private ModelTest(long seed) {
    draw = new Random(seed);
    digestEach = seed % 2 == 0 ? 1 : 16;
    wild = seed % 4 == 0 ? 25 : 2;
    mostTicks = seed % 3 == 0 ? 500 : 12;
  }

  public static void main(String[] args) {
    for (int seed = 1; seed <= RUNS; seed++) {
      new ModelTest(seed).goThrough(seed);
    }
    Check.end("ModelTest");
  }

  private interface Call {
    double answer();
  }

  private static String told(Call call) {
    try {
      return Double.toString(call.answer());
    } catch (RuntimeException e) {
      return e.getClass().getName();
    }
  }

  private void compare(int seed, int k, String name, Call ofX, Call ofY) {
    String got = told(ofX);
    String want = told(ofY);
    String where = "seed " + seed + ", call " + k + ", " + name;
    Check.due(where + " (" + got + ", due is " + want + ")", got.equals(want), true);
    calls++;
    if (k % digestEach == 0) {
      Check.due(where + ", the digest behind it", x.digest(), y.digest());
      calls++;
    }
  }

  /** Mostly a number from least to most, its ends more often; sometimes just any. */
  private int some(int least, int most) {
    if (draw.nextInt(100) < wild) {
      return draw.nextBoolean() ? WILD[draw.nextInt(WILD.length)] : draw.nextInt();
    }
    int kind = draw.nextInt(10);
    if (kind == 0) {
      return least;
    }
    return kind == 1 ? most : least + draw.nextInt(Math.max(most - least + 1, 1));
  }

  private int someSpring() {
    return some(0, Math.max(y.count(1) - 1, 0));
  }

  private int someBird() {
    return some(0, Math.max(y.count(2) - 1, 0));
  }

  private int somePlace(int bird) {
    return some(0, bird >= 0 && bird < y.count(2) ? y.bird(bird, 2) - 1 : 7);
  }

  private void goThrough(int seed) {
    for (int k = 0; calls + 2 <= CALLS; k++) {
      int kind = draw.nextInt(100);
      if (kind < 22) {
        aboutSprings(seed, k, kind);
      } else if (kind < 62) {
        aboutBirds(seed, k, kind);
      } else {
        aboutSongs(seed, k, kind);
      }
    }
  }

  private void aboutSprings(int seed, int k, int kind) {
    int a = someSpring();
    int b = someSpring();
    int what = some(0, 6);
    int strength = some(1, 50);
    int turns = draw.nextInt(3) == 0 ? some(1, 300) : some(1, 200000);
    boolean on = draw.nextInt(3) != 0;
    if (kind < 3) {
      compare(seed, k, "addSpring", () -> x.addSpring(strength), () -> y.addSpring(strength));
    } else if (kind < 11) {
      compare(seed, k, "wind", () -> x.wind(a, turns), () -> y.wind(a, turns));
    } else if (kind < 14) {
      compare(seed, k, "brake", () -> x.brake(a, !on) ? 1 : 0, () -> y.brake(a, !on));
    } else if (kind < 18) {
      compare(seed, k, "couple", () -> x.couple(a, b, on), () -> y.couple(a, b, on));
    } else {
      compare(seed, k, "spring", () -> x.spring(a, what), () -> y.spring(a, what));
    }
  }

  private void aboutBirds(int seed, int k, int kind) {
    int spring = someSpring();
    int weight = some(0, 20);
    int places = draw.nextBoolean() ? some(8, 14) : some(8, 96);
    int p = some(1, 12);
    int q = some(1, 12);
    int bird = someBird();
    int place = somePlace(bird);
    int lever = some(0, 5);
    int note = some(0, 87);
    int cam = some(0, 2);
    int lift = draw.nextInt(4) == 0 ? -1 : some(0, 100);
    int what = some(0, 9);
    boolean on = draw.nextInt(3) != 0;
    if (kind < 26) {
      compare(seed, k, "addBird", () -> x.addBird(spring, weight, places, p, q),
          () -> y.addBird(spring, weight, places, p, q));
    } else if (kind < 29) {
      compare(seed, k, "engage", () -> x.engage(bird, on) ? 1 : 0, () -> y.engage(bird, on));
    } else if (kind < 40) {
      compare(seed, k, "pin", () -> x.pin(bird, place, lever), () -> y.pin(bird, place, lever));
    } else if (kind < 43) {
      compare(seed, k, "tune", () -> x.tune(bird, lever, note), () -> y.tune(bird, lever, note));
    } else if (kind < 53) {
      compare(seed, k, "point", () -> x.point(bird, cam, place, lift),
          () -> y.point(bird, cam, place, lift));
    } else if (kind < 57) {
      compare(seed, k, "bird", () -> x.bird(bird, what), () -> y.bird(bird, what));
    } else {
      int where = draw.nextInt(6) == 0 ? -1 : place;
      compare(seed, k, "lift", () -> x.lift(bird, cam, where), () -> y.lift(bird, cam, where));
    }
  }

  private void aboutSongs(int seed, int k, int kind) {
    int ticks = some(1, mostTicks);
    int what = some(0, 5);
    int index = some(0, Math.max(Math.min(y.count(4), 250) - 1, 0));
    int tick = some(Math.max(0, y.count(0) - 40), y.count(0));
    int most = draw.nextBoolean() ? some(1, 20) : some(1, 2000);
    if (kind < 80) {
      compare(seed, k, "run", () -> x.run(ticks), () -> y.run(ticks));
    } else if (kind < 82) {
      compare(seed, k, "count", () -> x.count(what), () -> y.count(what));
    } else if (kind < 87) {
      compare(seed, k, "sung", () -> x.sung(index, what), () -> y.sung(index, what));
    } else if (kind < 91) {
      compare(seed, k, "chord", () -> x.chord(tick), () -> y.chord(tick));
    } else if (kind < 93) {
      compare(seed, k, "longest", () -> x.longest(), () -> y.longest());
    } else if (kind < 95) {
      compare(seed, k, "emptySongs", () -> x.emptySongs(), () -> y.emptySongs());
    } else if (kind < 98) {
      compare(seed, k, "runsDown", () -> x.runsDown(most), () -> y.runsDown(most));
    } else {
      compare(seed, k, "tension", () -> x.tension(), () -> y.tension());
    }
  }
}
