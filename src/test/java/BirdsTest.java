/** Promises 7 to 13: addBird, engage, pin, tune, point, bird, lift. */
public final class BirdsTest {
  private static final Class<?> INDEX = IndexOutOfBoundsException.class;
  private static final Class<?> ARGUMENT = IllegalArgumentException.class;
  private static final Class<?> STATE = IllegalStateException.class;

  public static void main(String[] args) {
    addBird();
    addBirdLate();
    engage();
    pin();
    tune();
    point();
    bird();
    lift();
    liftCutDownwards();
    Check.end("BirdsTest");
  }

  private static void addBird() {
    BirdParlour x = new BirdParlour();
    Check.refused(x, "7: no spring", INDEX, () -> x.addBird(0, 0, 8, 1, 1));
    x.addSpring(10);
    x.addSpring(10);
    int[][] wrong = {
      {-1, 8, 1, 1}, {21, 8, 1, 1}, {0, 7, 1, 1}, {0, 97, 1, 1}, {0, 8, 0, 1}, {0, 8, 13, 1},
      {0, 8, 1, 0}, {0, 8, 1, 13}, {0, -8, 1, 1}, {0, 8, 1, Integer.MIN_VALUE},
      {Integer.MAX_VALUE, 8, 1, 1}, {0, Integer.MAX_VALUE, 1, 1}, {0, 8, Integer.MAX_VALUE, 1},
    };
    for (int[] w : wrong) {
      Check.refused(x, "7: a wrong bird", ARGUMENT, () -> x.addBird(1, w[0], w[1], w[2], w[3]));
      Check.refused(x, "7: no spring", INDEX, () -> x.addBird(2, w[0], w[1], w[2], w[3]));
    }
    Check.due("7: the least", x.addBird(1, 0, 8, 1, 1), 0);
    Check.due("7: the most", x.addBird(0, 20, 96, 12, 12), 1);
    for (int k = 2; k < 8; k++) {
      Check.due("7: more", x.addBird(0, k, 10 + k, 2, 3), k);
    }
    Check.due("7: birds", x.count(2), 8);
    Check.refused(x, "7: a ninth", STATE, () -> x.addBird(0, 0, 8, 1, 1));
    Check.refused(x, "7: a ninth, wrong", ARGUMENT, () -> x.addBird(0, 0, 8, 1, 13));
    Check.refused(x, "7: a ninth, no spring", INDEX, () -> x.addBird(-1, 0, 8, 1, 1));
  }

  private static void addBirdLate() {
    BirdParlour x = new BirdParlour();
    x.addSpring(50);
    x.wind(0, 200000);
    x.run(7);
    Check.due("7: the shaft has gone", x.spring(0, 2), 2800);
    x.addBird(0, 0, 10, 1, 1);
    Check.due("7: begins at the place 0", x.bird(0, 5), 0);
    Check.due("7: has gone 0", x.bird(0, 8), 0);
    x.run(1);
    Check.due("7: the shaft counts from there", x.bird(0, 8), 4);
  }

  private static void engage() {
    BirdParlour x = new BirdParlour();
    x.addSpring(50);
    x.wind(0, 200000);
    x.addBird(0, 0, 10, 1, 1);
    Check.due("8: engaged at first", x.engage(0, true), true);
    x.run(3);
    Check.due("8: place", x.bird(0, 5), 2);
    Check.due("8: engaged so already", x.engage(0, true), true);
    Check.due("8: nothing is changed", x.bird(0, 8), 12);
    Check.due("8: engage(0, false)", x.engage(0, false), true);
    Check.due("8: stands", x.bird(0, 5), 2);
    Check.due("8: has gone", x.bird(0, 8), 12);
    Check.due("8: is not engaged", x.bird(0, 6), 0);
    x.run(4);
    Check.due("8: still stands", x.bird(0, 5), 2);
    Check.due("8: disengaged so already", x.engage(0, false), false);
    Check.due("8: still has gone", x.bird(0, 8), 12);
    Check.due("8: engage(0, true)", x.engage(0, true), false);
    Check.due("8: at the place 0 again", x.bird(0, 5), 0);
    Check.due("8: has gone 0 again", x.bird(0, 8), 0);
    x.run(1);
    Check.due("8: the shaft counts from there", x.bird(0, 8), 4);
    for (int bird : new int[] {-1, 1, 8, Integer.MIN_VALUE, Integer.MAX_VALUE}) {
      Check.refused(x, "8: engage(" + bird + ")", INDEX, () -> x.engage(bird, false));
    }
  }

  private static void pin() {
    BirdParlour x = new BirdParlour();
    Check.refused(x, "9: no bird", INDEX, () -> x.pin(0, 0, 0));
    x.addSpring(10);
    x.addBird(0, 0, 8, 1, 1);
    x.addBird(0, 0, 96, 1, 1);
    Check.due("9: the last place and lever", x.pin(0, 7, 5), 1);
    Check.due("9: taken away", x.pin(0, 7, 5), 0);
    int pins = 0;
    for (int place = 0; place < 4; place++) {
      for (int lever = 0; lever < 6; lever++) {
        pins++;
        Check.due("9: laid", x.pin(0, place, lever), pins);
      }
    }
    Check.refused(x, "9: a 25th", STATE, () -> x.pin(0, 4, 0));
    Check.refused(x, "9: a 25th, wrong", ARGUMENT, () -> x.pin(0, 8, 0));
    Check.due("9: another bird's", x.pin(1, 95, 0), 1);
    Check.due("9: one of 24 away", x.pin(0, 3, 5), 23);
    Check.due("9: a 24th again", x.pin(0, 4, 0), 24);
    Check.due("9: pins", x.bird(0, 7), 24);
    int[][] wrong = {{-1, 0}, {8, 0}, {0, -1}, {0, 6}, {0, 32}, {Integer.MAX_VALUE, 0},
        {Integer.MIN_VALUE, 0}, {0, Integer.MIN_VALUE}};
    for (int[] w : wrong) {
      Check.refused(x, "9: a wrong pin", ARGUMENT, () -> x.pin(0, w[0], w[1]));
      Check.refused(x, "9: no bird", INDEX, () -> x.pin(2, w[0], w[1]));
      Check.refused(x, "9: no bird", INDEX, () -> x.pin(-1, w[0], w[1]));
    }
    Check.refused(x, "9: place 96", ARGUMENT, () -> x.pin(1, 96, 0));
  }

  private static void tune() {
    BirdParlour x = new BirdParlour();
    Check.refused(x, "10: no bird", INDEX, () -> x.tune(0, 0, 0));
    x.addSpring(10);
    x.addBird(0, 0, 8, 1, 1);
    x.addBird(0, 0, 8, 1, 1);
    for (int lever = 0; lever < 6; lever++) {
      Check.due("10: at first", x.tune(0, lever, 80 + lever), 60 + 2 * lever);
    }
    for (int lever = 0; lever < 6; lever++) {
      Check.due("10: tuned", x.tune(0, lever, lever == 3 ? 87 : 0), 80 + lever);
    }
    Check.due("10: another bird's", x.tune(1, 3, 1), 66);
    Check.due("10: the highest", x.tune(0, 3, 5), 87);
    for (int note : new int[] {-1, 88, Integer.MIN_VALUE, Integer.MAX_VALUE}) {
      Check.refused(x, "10: note " + note, ARGUMENT, () -> x.tune(0, 0, note));
      Check.refused(x, "10: lever 6", INDEX, () -> x.tune(0, 6, note));
      Check.refused(x, "10: lever -1", INDEX, () -> x.tune(0, -1, note));
      Check.refused(x, "10: bird 2", INDEX, () -> x.tune(2, 0, note));
    }
    Check.refused(x, "10: lever 6", INDEX, () -> x.tune(0, 6, 0));
    Check.refused(x, "10: bird -1", INDEX, () -> x.tune(-1, 0, 0));
  }

  private static void point() {
    BirdParlour x = new BirdParlour();
    Check.refused(x, "11: no bird", INDEX, () -> x.point(0, 0, 0, 0));
    x.addSpring(10);
    x.addBird(0, 0, 12, 1, 1);
    Check.refused(x, "11: none to take", STATE, () -> x.point(0, 1, 3, -1));
    for (int k = 0; k < 8; k++) {
      Check.due("11: laid", x.point(0, 1, k, 10 * k), k + 1);
    }
    Check.refused(x, "11: a ninth", STATE, () -> x.point(0, 1, 8, 0));
    Check.refused(x, "11: none to take of 8", STATE, () -> x.point(0, 1, 8, -1));
    Check.refused(x, "11: a ninth, wrong", ARGUMENT, () -> x.point(0, 1, 12, 0));
    Check.due("11: in the place of one", x.point(0, 1, 7, 100), 8);
    Check.due("11: its lift", x.lift(0, 1, 7), 100);
    Check.due("11: another cam's", x.point(0, 2, 11, 0), 1);
    Check.due("11: taken away", x.point(0, 1, 3, -1), 7);
    Check.due("11: between the others then", x.lift(0, 1, 3), 30);
    Check.due("11: an eighth again", x.point(0, 1, 11, 1), 8);
    int[][] wrong = {{-1, 0}, {12, 0}, {0, -2}, {0, 101}, {12, -1}, {Integer.MAX_VALUE, 0},
        {Integer.MIN_VALUE, 0}, {0, Integer.MIN_VALUE}, {0, Integer.MAX_VALUE}};
    for (int[] w : wrong) {
      Check.refused(x, "11: a wrong point", ARGUMENT, () -> x.point(0, 0, w[0], w[1]));
      Check.refused(x, "11: cam 3", INDEX, () -> x.point(0, 3, w[0], w[1]));
      Check.refused(x, "11: cam -1", INDEX, () -> x.point(0, -1, w[0], w[1]));
      Check.refused(x, "11: bird 1", INDEX, () -> x.point(1, 0, w[0], w[1]));
      Check.refused(x, "11: bird -1", INDEX, () -> x.point(-1, 0, w[0], w[1]));
    }
    Check.due("11: the only one", x.point(0, 2, 11, -1), 0);
    Check.due("11: no lift without points", x.lift(0, 2, 11), 0);
    x.point(0, 2, 5, 60);
    Check.due("11: the only one, of a lift", x.point(0, 2, 5, -1), 0);
    for (int place = 0; place < 12; place++) {
      Check.due("11: no lift without points", x.lift(0, 2, place), 0);
    }
  }

  private static void bird() {
    BirdParlour x = new BirdParlour();
    x.addSpring(50);
    x.addSpring(50);
    x.wind(1, 200000);
    x.addBird(1, 4, 11, 5, 3);
    x.pin(0, 2, 0);
    x.pin(0, 3, 1);
    x.run(1);
    // 50 * 200000 / (200 * 14) is over 400; 400 * 5 * 11 / 3000 = 7
    int[] want = {1, 4, 11, 5, 3, 7, 1, 2, 7, 2};
    for (int what = 0; what <= 9; what++) {
      Check.due("12: bird(0, " + what + ")", x.bird(0, what), want[what]);
    }
    x.run(2);
    Check.due("12: gone 1200 * 55 / 3000", x.bird(0, 8), 22);
    Check.due("12: place", x.bird(0, 5), 0);
    x.emptySongs();
    Check.due("12: sounded in all", x.bird(0, 9), 4);
    Check.refused(x, "12: what -1", INDEX, () -> x.bird(0, -1));
    Check.refused(x, "12: what 10", INDEX, () -> x.bird(0, 10));
    Check.refused(x, "12: what min", INDEX, () -> x.bird(0, Integer.MIN_VALUE));
    Check.refused(x, "12: bird 1", INDEX, () -> x.bird(1, 0));
    Check.refused(x, "12: bird 8", INDEX, () -> x.bird(8, 0));
    Check.refused(x, "12: bird -1", INDEX, () -> x.bird(-1, 0));
  }

  private static void lift() {
    BirdParlour x = new BirdParlour();
    Check.refused(x, "13: no bird", INDEX, () -> x.lift(0, 0, 0));
    x.addSpring(50);
    x.wind(0, 200000);
    x.addBird(0, 0, 10, 1, 1);
    Check.due("13: without points", x.lift(0, 0, 9), 0);
    x.point(0, 0, 4, 33);
    for (int place = 0; place < 10; place++) {
      Check.due("13: of one point", x.lift(0, 0, place), 33);
    }
    x.point(0, 0, 8, 73);
    int[] want = {59, 53, 46, 39, 33, 43, 53, 63, 73, 66};
    for (int place = 0; place < 10; place++) {
      Check.due("13: of two points at " + place, x.lift(0, 0, place), want[place]);
    }
    Check.due("13: where it is", x.lift(0, 0, -1), 59);
    x.run(1);
    Check.due("13: where it is then", x.lift(0, 0, -1), 33);
    Check.due("13: another cam", x.lift(0, 1, -1), 0);
    for (int place : new int[] {-2, 10, Integer.MIN_VALUE, Integer.MAX_VALUE}) {
      Check.refused(x, "13: place " + place, ARGUMENT, () -> x.lift(0, 0, place));
      Check.refused(x, "13: cam 3", INDEX, () -> x.lift(0, 3, place));
      Check.refused(x, "13: cam -1", INDEX, () -> x.lift(0, -1, place));
      Check.refused(x, "13: bird 1", INDEX, () -> x.lift(1, 0, place));
    }
    Check.refused(x, "13: bird -1", INDEX, () -> x.lift(-1, 0, 0));
  }

  private static void liftCutDownwards() {
    BirdParlour x = new BirdParlour();
    x.addSpring(1);
    x.addBird(0, 0, 9, 1, 1);
    x.point(0, 0, 0, 1);
    x.point(0, 0, 3, 0);
    int[] want = {1, 0, 0, 0, 0, 0, 0, 0, 0};
    for (int place = 0; place < 9; place++) {
      Check.due("13: cut downwards at " + place, x.lift(0, 0, place), want[place]);
    }
    x.point(0, 0, 3, 100);
    x.point(0, 0, 5, 0);
    // from 5 (0) to 9 (1), and from 3 (100) to 5 (0)
    int[] then = {1, 34, 67, 100, 50, 0, 0, 0, 0};
    for (int place = 0; place < 9; place++) {
      Check.due("13: of three points at " + place, x.lift(0, 0, place), then[place]);
    }
  }
}
