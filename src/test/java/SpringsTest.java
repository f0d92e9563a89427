/** Promises 1 to 6: a new object, addSpring, wind, brake, couple, spring. */
public final class SpringsTest {
  private static final Class<?> INDEX = IndexOutOfBoundsException.class;
  private static final Class<?> ARGUMENT = IllegalArgumentException.class;
  private static final Class<?> STATE = IllegalStateException.class;

  public static void main(String[] args) {
    newObject();
    addSpring();
    wind();
    brake();
    couple();
    coupledTick();
    spring();
    springWithBirds();
    Check.end("SpringsTest");
  }

  private static void newObject() {
    BirdParlour x = new BirdParlour();
    for (int what = 0; what <= 5; what++) {
      Check.due("1: count(" + what + ")", x.count(what), 0);
    }
    Check.due("1: longest()", x.longest(), 0);
    Check.due("1: emptySongs()", x.emptySongs(), 0);
    Check.due("1: runsDown(1)", x.runsDown(1), 0);
    Check.dueDouble("1: tension()", x.tension(), 0.0);
    Check.refused(x, "1: sung(0, 0)", INDEX, () -> x.sung(0, 0));
    Check.refused(x, "1: spring(0, 0)", INDEX, () -> x.spring(0, 0));
    Check.refused(x, "1: bird(0, 0)", INDEX, () -> x.bird(0, 0));
    BirdParlour y = new BirdParlour();
    x.addSpring(3);
    Check.due("1: another object's springs", y.count(1), 0);
  }

  private static void addSpring() {
    BirdParlour x = new BirdParlour();
    for (int strength : new int[] {0, -1, 51, Integer.MIN_VALUE, Integer.MAX_VALUE}) {
      Check.refused(x, "2: addSpring(" + strength + ")", ARGUMENT, () -> x.addSpring(strength));
    }
    Check.due("2: addSpring(1)", x.addSpring(1), 0);
    Check.due("2: addSpring(50)", x.addSpring(50), 1);
    Check.due("2: addSpring(7)", x.addSpring(7), 2);
    Check.due("2: addSpring(7)", x.addSpring(7), 3);
    Check.due("2: strength of 0", x.spring(0, 0), 1);
    Check.due("2: strength of 1", x.spring(1, 0), 50);
    Check.due("2: strength of 3", x.spring(3, 0), 7);
    Check.due("2: springs", x.count(1), 4);
    Check.refused(x, "2: a fifth", STATE, () -> x.addSpring(7));
    Check.refused(x, "2: a fifth of 0", ARGUMENT, () -> x.addSpring(0));
    Check.due("2: springs still", x.count(1), 4);
  }

  private static void wind() {
    BirdParlour x = new BirdParlour();
    Check.refused(x, "3: wind(0, 5) of none", INDEX, () -> x.wind(0, 5));
    x.addSpring(10);
    Check.due("3: wind(0, 1)", x.wind(0, 1), 1);
    Check.due("3: wind(0, 100)", x.wind(0, 100), 101);
    Check.due("3: wind(0, 199898)", x.wind(0, 199898), 199999);
    Check.due("3: wind to the brim", x.wind(0, 1), 200000);
    Check.due("3: wind over the brim", x.wind(0, 200000), 200000);
    Check.due("3: holds", x.spring(0, 1), 200000);
    for (int turns : new int[] {0, -1, 200001, Integer.MIN_VALUE, Integer.MAX_VALUE}) {
      Check.refused(x, "3: wind(0, " + turns + ")", ARGUMENT, () -> x.wind(0, turns));
      Check.refused(x, "3: wind(1, " + turns + ")", INDEX, () -> x.wind(1, turns));
      Check.refused(x, "3: wind(-1, " + turns + ")", INDEX, () -> x.wind(-1, turns));
    }
    Check.refused(x, "3: wind(4, 1)", INDEX, () -> x.wind(4, 1));
    Check.refused(x, "3: wind(min, 1)", INDEX, () -> x.wind(Integer.MIN_VALUE, 1));
  }

  private static void brake() {
    BirdParlour x = new BirdParlour();
    x.addSpring(10);
    x.addSpring(10);
    x.wind(0, 1000);
    x.wind(1, 1000);
    Check.due("4: brake(0, false)", x.brake(0, false), false);
    Check.due("4: brake(0, true)", x.brake(0, true), false);
    Check.due("4: brake(0, true) again", x.brake(0, true), true);
    Check.due("4: is braked", x.spring(0, 4), 1);
    Check.due("4: the other is not", x.spring(1, 4), 0);
    x.run(2);
    Check.due("4: the braked one holds", x.spring(0, 1), 1000);
    Check.due("4: the other holds", x.spring(1, 1), 991);
    Check.due("4: brake(0, false)", x.brake(0, false), true);
    x.run(1);
    Check.due("4: let go, it holds", x.spring(0, 1), 995);
    for (int spring : new int[] {-1, 2, 4, Integer.MIN_VALUE, Integer.MAX_VALUE}) {
      Check.refused(x, "4: brake(" + spring + ")", INDEX, () -> x.brake(spring, true));
    }
  }

  private static void couple() {
    BirdParlour x = new BirdParlour();
    Check.refused(x, "5: couple(0, 0) of none", INDEX, () -> x.couple(0, 0, true));
    for (int k = 0; k < 4; k++) {
      x.addSpring(1);
    }
    int pairs = 0;
    for (int a = 0; a < 4; a++) {
      for (int b = a + 1; b < 4; b++) {
        pairs++;
        Check.due("5: couple a pair", x.couple(a, b, true), pairs);
        Check.due("5: couple it again, turned", x.couple(b, a, true), pairs);
      }
    }
    Check.due("5: pairs", x.count(3), 6);
    Check.due("5: uncouple, turned", x.couple(3, 1, false), 5);
    Check.due("5: uncouple it again", x.couple(1, 3, false), 5);
    Check.due("5: couple it again", x.couple(1, 3, true), 6);
    Check.due("5: pairs", x.count(3), 6);
    for (boolean areBoth : new boolean[] {true, false}) {
      Check.refused(x, "5: couple(2, 2)", ARGUMENT, () -> x.couple(2, 2, areBoth));
      Check.refused(x, "5: couple(4, 4)", INDEX, () -> x.couple(4, 4, areBoth));
      Check.refused(x, "5: couple(-1, 0)", INDEX, () -> x.couple(-1, 0, areBoth));
      Check.refused(x, "5: couple(0, 4)", INDEX, () -> x.couple(0, 4, areBoth));
      Check.refused(x, "5: couple(max, 0)", INDEX, () -> x.couple(Integer.MAX_VALUE, 0, areBoth));
    }
  }

  private static void coupledTick() {
    BirdParlour x = new BirdParlour();
    for (int k = 0; k < 4; k++) {
      x.addSpring(1);
      x.brake(k, true);
    }
    x.wind(0, 1009);
    x.wind(3, 2000);
    x.couple(3, 1, true);
    x.couple(0, 1, true);
    x.couple(0, 2, true);
    x.run(1);
    // 0-1: d 100; 0-2: d (909 - 0) / 10 = 90; 1-3: d (100 - 2000) / 10 = -190
    Check.due("5: 0 holds", x.spring(0, 1), 819);
    Check.due("5: 1 holds", x.spring(1, 1), 290);
    Check.due("5: 2 holds", x.spring(2, 1), 90);
    Check.due("5: 3 holds", x.spring(3, 1), 1810);
    x.couple(0, 1, false);
    x.couple(0, 2, false);
    x.couple(1, 3, false);
    x.run(5);
    Check.due("5: uncoupled, 3 holds", x.spring(3, 1), 1810);

    BirdParlour y = new BirdParlour();
    y.addSpring(1);
    y.addSpring(1);
    y.brake(0, true);
    y.brake(1, true);
    y.wind(1, 19);
    y.couple(0, 1, true);
    y.run(1);
    Check.due("5: cut towards 0, 0 holds", y.spring(0, 1), 1);
    Check.due("5: cut towards 0, 1 holds", y.spring(1, 1), 18);
  }

  private static void spring() {
    BirdParlour x = new BirdParlour();
    x.addSpring(40);
    x.wind(0, 20000);
    Check.due("6: speed ahead of all ticks", x.spring(0, 3), 0);
    Check.due("6: load of none", x.spring(0, 6), 10);
    x.run(1);
    // 40 * 20000 / (200 * 10) = 400
    Check.due("6: strength", x.spring(0, 0), 40);
    Check.due("6: holds", x.spring(0, 1), 19600);
    Check.due("6: shaft", x.spring(0, 2), 400);
    Check.due("6: speed", x.spring(0, 3), 400);
    x.run(1);
    Check.due("6: speed 40 * 19600 / 2000", x.spring(0, 3), 392);
    Check.due("6: shaft", x.spring(0, 2), 792);
    x.wind(0, 200000);
    x.run(1);
    Check.due("6: speed at most 400", x.spring(0, 3), 400);
    x.brake(0, true);
    Check.due("6: braked, not yet ticked", x.spring(0, 3), 400);
    x.run(1);
    Check.due("6: speed while braked", x.spring(0, 3), 0);
    Check.due("6: shaft while braked", x.spring(0, 2), 1192);
    Check.refused(x, "6: what -1", INDEX, () -> x.spring(0, -1));
    Check.refused(x, "6: what 7", INDEX, () -> x.spring(0, 7));
    Check.refused(x, "6: what max", INDEX, () -> x.spring(0, Integer.MAX_VALUE));
    Check.refused(x, "6: spring 1", INDEX, () -> x.spring(1, 0));
    Check.refused(x, "6: spring -1", INDEX, () -> x.spring(-1, 0));
    Check.refused(x, "6: spring 4", INDEX, () -> x.spring(4, 7));

    BirdParlour y = new BirdParlour();
    y.addSpring(1);
    y.wind(0, 3);
    y.run(1);
    Check.due("6: speed at least 1", y.spring(0, 3), 1);
    y.run(2);
    Check.due("6: run down", y.spring(0, 1), 0);
    Check.due("6: speed of the last tick", y.spring(0, 3), 1);
    y.run(1);
    Check.due("6: speed when it holds 0", y.spring(0, 3), 0);
    Check.due("6: shaft in all", y.spring(0, 2), 3);
  }

  private static void springWithBirds() {
    BirdParlour x = new BirdParlour();
    x.addSpring(10);
    x.addSpring(10);
    x.addBird(0, 20, 10, 1, 1);
    x.addBird(1, 7, 10, 1, 1);
    x.addBird(0, 3, 10, 1, 1);
    x.point(0, 0, 0, 3);
    x.point(0, 1, 0, 3);
    x.point(2, 2, 0, 4);
    x.point(2, 1, 0, 5);
    // (3 + 3) / 5 and (4 + 5) / 5, each cut for itself
    Check.due("6: load of two birds", x.spring(0, 6), 10 + 20 + 1 + 3 + 1);
    Check.due("6: load of one bird", x.spring(1, 6), 17);
    Check.due("6: birds engaged", x.spring(0, 5), 2);
    x.engage(0, false);
    Check.due("6: birds still engaged", x.spring(0, 5), 1);
    Check.due("6: load of the other one", x.spring(0, 6), 14);
    Check.due("6: the other spring's", x.spring(1, 5), 1);
  }
}
