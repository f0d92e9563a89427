/** Promises 14 to 19: run, count, sung, chord, longest, emptySongs. */
public final class TicksTest {
  private static final Class<?> INDEX = IndexOutOfBoundsException.class;
  private static final Class<?> ARGUMENT = IllegalArgumentException.class;

  public static void main(String[] args) {
    runTicks();
    runOrder();
    runWholeRounds();
    runPays();
    runLoads();
    count();
    sung();
    keptAreTheFirst();
    chord();
    longest();
    emptySongs();
    Check.end("TicksTest");
  }

  /** A spring that goes 400 a tick for long, and a bird whose barrel then goes 4 places of 10. */
  private static BirdParlour wound() {
    BirdParlour x = new BirdParlour();
    x.addSpring(50);
    x.wind(0, 200000);
    x.addBird(0, 0, 10, 1, 1);
    return x;
  }

  private static void dueNote(BirdParlour x, int index, int tick, int bird, int lever, int note) {
    Check.due("sung(" + index + ", 0)", x.sung(index, 0), tick);
    Check.due("sung(" + index + ", 1)", x.sung(index, 1), bird);
    Check.due("sung(" + index + ", 2)", x.sung(index, 2), lever);
    Check.due("sung(" + index + ", 3)", x.sung(index, 3), note);
  }

  private static void runTicks() {
    BirdParlour x = new BirdParlour();
    for (int ticks : new int[] {0, -1, 501, Integer.MIN_VALUE, Integer.MAX_VALUE}) {
      Check.refused(x, "14: run(" + ticks + ")", ARGUMENT, () -> x.run(ticks));
    }
    Check.due("14: run(1)", x.run(1), 0);
    Check.due("14: run(500)", x.run(500), 0);
    Check.due("14: the tick", x.count(0), 501);
  }

  private static void runOrder() {
    BirdParlour x = wound();
    x.addBird(0, 0, 10, 1, 1);
    x.pin(1, 1, 2);
    x.pin(0, 3, 5);
    x.pin(0, 3, 0);
    x.pin(0, 2, 4);
    x.pin(0, 0, 3);
    x.pin(0, 4, 1);
    x.pin(0, 5, 1);
    Check.due("14: run(1)", x.run(1), 5);
    dueNote(x, 0, 1, 0, 4, 68);
    dueNote(x, 1, 1, 0, 0, 60);
    dueNote(x, 2, 1, 0, 5, 70);
    dueNote(x, 3, 1, 0, 1, 62);
    dueNote(x, 4, 1, 1, 2, 64);
    Check.due("14: run(2)", x.run(2), 4);
    dueNote(x, 5, 2, 0, 1, 62);
    dueNote(x, 6, 3, 0, 3, 66);
    dueNote(x, 7, 3, 0, 4, 68);
    dueNote(x, 8, 3, 1, 2, 64);
  }

  private static void runWholeRounds() {
    BirdParlour x = new BirdParlour();
    x.addSpring(50);
    x.wind(0, 200000);
    x.addBird(0, 0, 10, 12, 1);
    for (int place = 0; place < 10; place++) {
      x.pin(0, place, place % 6);
    }
    // 48 places a tick: only the last 10 sound, from 39 (the place 9) to 48 (the place 8)
    Check.due("14: more than a round", x.run(1), 10);
    Check.due("14: gone", x.bird(0, 8), 48);
    dueNote(x, 0, 1, 0, 3, 66);
    dueNote(x, 1, 1, 0, 0, 60);
    dueNote(x, 9, 1, 0, 2, 64);

    BirdParlour y = new BirdParlour();
    y.addSpring(50);
    y.wind(0, 200000);
    y.addBird(0, 0, 10, 5, 2);
    y.pin(0, 0, 0);
    y.pin(0, 1, 1);
    Check.due("14: just a round", y.run(1), 2);
    dueNote(y, 0, 1, 0, 1, 62);
    dueNote(y, 1, 1, 0, 0, 60);
  }

  private static void runPays() {
    BirdParlour x = new BirdParlour();
    x.addSpring(50);
    x.addBird(0, 0, 10, 12, 1);
    for (int place = 0; place < 10; place++) {
      x.pin(0, place, 0);
      x.pin(0, place, 1);
    }
    x.wind(0, 500);
    // its speed is 50 * 500 / 2000 = 12: 1 place (12 * 120 / 1000), 2 notes
    Check.due("14: run(1)", x.run(1), 2);
    Check.due("14: pays for two notes", x.spring(0, 1), 500 - 12 - 20);

    BirdParlour y = wound();
    y.brake(0, true);
    y.pin(0, 1, 0);
    Check.due("14: braked", y.run(10), 0);
    Check.due("14: braked, gone", y.bird(0, 8), 0);

    BirdParlour z = new BirdParlour();
    z.addSpring(50);
    z.addBird(0, 0, 96, 12, 1);
    z.addBird(0, 0, 96, 12, 1);
    for (int lever = 0; lever < 6; lever++) {
      z.pin(0, 1, lever);
    }
    z.pin(1, 1, 0);
    z.wind(0, 50);
    // its speed is 1: 1 place (1152 / 1000) of both; it holds 49, which 5 notes take
    Check.due("14: what it holds not is not paid", z.run(1), 7);
    Check.due("14: holds", z.spring(0, 1), 0);
    Check.due("14: shaft", z.spring(0, 2), 1);
    Check.due("14: the other bird sounds", z.bird(1, 9), 1);
    Check.due("14: run down", z.run(500), 0);
    Check.due("14: the shaft stands", z.spring(0, 2), 1);
  }

  private static void runLoads() {
    BirdParlour x = new BirdParlour();
    x.addSpring(20);
    x.wind(0, 10000);
    x.addBird(0, 5, 10, 1, 1);
    x.point(0, 0, 0, 74);
    x.point(0, 1, 0, 100);
    x.point(0, 2, 0, 100);
    Check.due("14: load 10 + 5 + 274 / 5", x.spring(0, 6), 69);
    x.run(1);
    Check.due("14: speed 200000 / 13800", x.spring(0, 3), 14);
    x.engage(0, false);
    x.run(1);
    Check.due("14: speed 20 * 9986 / 2000", x.spring(0, 3), 99);
    Check.due("14: gone while disengaged", x.bird(0, 8), 0);
  }

  private static void count() {
    BirdParlour x = wound();
    x.addSpring(3);
    x.addSpring(4);
    x.wind(2, 5);
    x.couple(1, 2, true);
    x.pin(0, 1, 0);
    x.run(3);
    // 1200 gone; 1 and 5 of 12 places gone sound not: only 1 and 11
    int[] want = {3, 3, 1, 1, 2, 200000 - 1200 - 20 + 2};
    for (int what = 0; what <= 5; what++) {
      Check.due("15: count(" + what + ")", x.count(what), want[what]);
    }
    for (int what : new int[] {-1, 6, Integer.MIN_VALUE, Integer.MAX_VALUE}) {
      Check.refused(x, "15: count(" + what + ")", INDEX, () -> x.count(what));
    }
  }

  private static void sung() {
    BirdParlour x = wound();
    x.pin(0, 4, 2);
    x.tune(0, 2, 17);
    x.run(1);
    x.tune(0, 2, 18);
    dueNote(x, 0, 1, 0, 2, 17);
    for (int what : new int[] {-1, 4, Integer.MIN_VALUE, Integer.MAX_VALUE}) {
      Check.refused(x, "16: sung(0, " + what + ")", INDEX, () -> x.sung(0, what));
    }
    for (int index : new int[] {-1, 1, 250, Integer.MIN_VALUE, Integer.MAX_VALUE, 1 << 30}) {
      Check.refused(x, "16: sung(" + index + ", 0)", INDEX, () -> x.sung(index, 0));
    }
  }

  private static void keptAreTheFirst() {
    BirdParlour x = new BirdParlour();
    x.addSpring(50);
    x.wind(0, 200000);
    x.addBird(0, 0, 8, 12, 1);
    for (int k = 0; k < 24; k++) {
      x.pin(0, k % 8, k / 8);
    }
    Check.due("16: run(10)", x.run(10), 240);
    Check.refused(x, "16: sung(240, 0)", INDEX, () -> x.sung(240, 0));
    Check.due("16: run(2)", x.run(2), 48);
    Check.due("16: all are counted", x.count(4), 288);
    Check.due("16: all are counted", x.bird(0, 9), 288);
    Check.due("16: the last kept", x.sung(249, 0), 11);
    Check.refused(x, "16: sung(250, 0)", INDEX, () -> x.sung(250, 0));
    Check.due("17: kept of the 11th tick", x.chord(11), 3);
    Check.due("17: kept of the 12th tick", x.chord(12), 0);
    Check.due("18: of those kept", x.longest(), 250);
    Check.due("19: kept", x.emptySongs(), 250);
    Check.due("19: counted", x.count(4), 0);
    x.run(1);
    Check.due("19: kept anew", x.sung(23, 0), 13);
  }

  private static void chord() {
    BirdParlour x = wound();
    x.addBird(0, 0, 10, 1, 1);
    int[] notes = {0, 63, 64, 87, 0, 31};
    for (int lever = 0; lever < 6; lever++) {
      x.tune(0, lever, notes[lever]);
      x.tune(1, lever, 64);
      x.pin(0, 1 + lever / 2, lever);
      x.pin(1, 1, lever);
    }
    x.pin(0, 4, 5);
    x.pin(1, 5, 0);
    x.tune(1, 0, 32);
    x.run(2);
    // 0, 63, 64, 87, 31 and 32, which is another than 0
    Check.due("17: chord(1)", x.chord(1), 6);
    Check.due("17: chord(2)", x.chord(2), 1);
    Check.due("17: chord(0)", x.chord(0), 0);
    Check.due("17: chord(3)", x.chord(3), 0);
    Check.due("17: chord(max)", x.chord(Integer.MAX_VALUE), 0);
    Check.refused(x, "17: chord(-1)", ARGUMENT, () -> x.chord(-1));
    Check.refused(x, "17: chord(min)", ARGUMENT, () -> x.chord(Integer.MIN_VALUE));
    x.emptySongs();
    Check.due("17: chord(1) when empty", x.chord(1), 0);
  }

  private static void longest() {
    BirdParlour x = wound();
    x.addBird(0, 0, 10, 1, 1);
    x.pin(0, 1, 0);
    x.run(1);
    Check.due("18: one", x.longest(), 1);
    x.pin(1, 5, 0);
    x.pin(1, 6, 0);
    x.run(1);
    Check.due("18: two of the other", x.longest(), 2);
    x.pin(1, 9, 0);
    x.run(1);
    // the first bird's place 11 and then the second's 9: 0 1 1 0 1
    Check.due("18: a note between", x.longest(), 2);
    x.pin(1, 3, 0);
    x.pin(1, 4, 0);
    x.run(1);
    // 0 1 1 0 1, and then 1 1 1 1 at the places 3 to 6
    Check.due("18: over two ticks", x.longest(), 5);
    x.engage(1, false);
    x.run(3);
    Check.due("18: a later, shorter row", x.longest(), 5);
    x.emptySongs();
    Check.due("18: none", x.longest(), 0);
  }

  private static void emptySongs() {
    BirdParlour x = wound();
    x.pin(0, 1, 0);
    x.pin(0, 2, 0);
    x.run(1);
    Check.due("19: kept", x.emptySongs(), 2);
    Check.due("19: none then", x.emptySongs(), 0);
    Check.due("19: counted", x.count(4), 0);
    Check.due("19: the bird's own", x.bird(0, 9), 2);
    Check.due("19: the tick", x.count(0), 1);
    Check.refused(x, "19: sung(0, 0)", INDEX, () -> x.sung(0, 0));
    x.run(2);
    dueNote(x, 0, 3, 0, 0, 60);
    Check.due("19: kept anew", x.emptySongs(), 2);
  }
}
