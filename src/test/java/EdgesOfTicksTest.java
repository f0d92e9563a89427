/** The edges that the terms of a tick and of songs and the promises 14 to 19 name. */
public final class EdgesOfTicksTest {
  private static final int MIN = Integer.MIN_VALUE;
  private static final int MAX = Integer.MAX_VALUE;

  public static void main(String[] args) throws IllegalAccessException {
    Edges.runAll(EdgesOfTicksTest.class);
  }

  private static void dueNote(BirdParlour x, int index, int tick, int bird, int lever, int note) {
    Edges.due("sung(" + index + ", 0)", x.sung(index, 0), tick);
    Edges.due("sung(" + index + ", 1)", x.sung(index, 1), bird);
    Edges.due("sung(" + index + ", 2)", x.sung(index, 2), lever);
    Edges.due("sung(" + index + ", 3)", x.sung(index, 3), note);
  }

  /** One spring without birds. */
  private static BirdParlour spring(int strength, int held) {
    BirdParlour x = new BirdParlour();
    x.addSpring(strength);
    x.wind(0, held);
    return x;
  }

  private static void dueSpeed(int strength, int held, int due) {
    BirdParlour x = spring(strength, held);
    x.run(1);
    String call = "strength " + strength + ", held " + held;
    Edges.due(call + ": speed", x.spring(0, 3), due);
    Edges.due(call + ": shaft", x.spring(0, 2), due);
    Edges.due(call + ": holds", x.spring(0, 1), held - due);
  }

  // ---- the terms: a tick

  @Says("if it is braked, or holds 0, it does not go")
  static void aBrakedSpringDoesNotGo() {
    BirdParlour x = Parlours.fast(10, 1, 1);
    x.pin(0, 1, 0);
    x.brake(0, true);
    Edges.due("notes", x.run(10), 0);
    Edges.due("shaft", x.spring(0, 2), 0);
    Edges.due("holds", x.spring(0, 1), 200000);
    Edges.due("gone", x.bird(0, 8), 0);
  }

  @Says("if it is braked, or holds 0, it does not go")
  static void aSpringThatHolds0DoesNotGo() {
    BirdParlour x = Parlours.withSprings(1);
    x.addBird(0, 0, 96, 12, 1);
    x.pin(0, 1, 0);
    Edges.due("notes", x.run(500), 0);
    Edges.due("shaft", x.spring(0, 2), 0);
    Edges.due("speed", x.spring(0, 3), 0);
    Edges.due("holds", x.spring(0, 1), 0);
    Edges.due("gone", x.bird(0, 8), 0);
  }

  @Says("if it is braked, or holds 0, it does not go")
  static void aSpringThatIsLetGoGoesAgain() {
    BirdParlour x = spring(10, 20000);
    x.brake(0, true);
    x.run(1);
    x.brake(0, false);
    x.run(1);
    Edges.due("shaft", x.spring(0, 2), 100);
  }

  @Says("its speed is the strength * (what it holds) / (200 * load)")
  static void theSpeedIsCut() {
    dueSpeed(1, 3999, 1);
    dueSpeed(1, 4000, 2);
    dueSpeed(7, 1999, 6);
    dueSpeed(7, 2000, 7);
  }

  @Says("at least 1")
  static void theSpeedIsAtLeast1() {
    dueSpeed(1, 1, 1);
    dueSpeed(1, 1999, 1);
    dueSpeed(1, 2000, 1);
    dueSpeed(50, 2, 1);
    dueSpeed(50, 39, 1);
  }

  @Says("at most 400")
  static void theSpeedIsAtMost400() {
    dueSpeed(50, 15999, 399);
    dueSpeed(50, 16000, 400);
    dueSpeed(50, 16039, 400);
    dueSpeed(50, 16040, 400);
    dueSpeed(50, 200000, 400);
  }

  @Says("at most what it holds")
  static void theLastThousandthIsAllThatItGoes() {
    BirdParlour x = spring(50, 1);
    x.run(2);
    Edges.due("shaft", x.spring(0, 2), 1);
    Edges.due("holds", x.spring(0, 1), 0);
    Edges.due("speed", x.spring(0, 3), 0);
  }

  @Says("a fifth (cut) of the sum of the lifts of its three cams at its place")
  static void aFifthOf4IsNothingAndOf5IsOne() {
    BirdParlour x = Parlours.withBirds(1);
    x.point(0, 1, 0, 4);
    Edges.due("load with 4", x.spring(0, 6), 10);
    x.point(0, 1, 0, 5);
    Edges.due("load with 5", x.spring(0, 6), 11);
    x.point(0, 1, 0, 9);
    Edges.due("load with 9", x.spring(0, 6), 11);
    x.point(0, 1, 0, 10);
    Edges.due("load with 10", x.spring(0, 6), 12);
  }

  @Says("a fifth (cut) of the sum of the lifts of its three cams at its place")
  static void theThreeLiftsAreAddedAheadOfTheCut() {
    BirdParlour x = Parlours.withBirds(1);
    x.point(0, 0, 0, 2);
    x.point(0, 1, 0, 1);
    x.point(0, 2, 0, 2);
    Edges.due("load", x.spring(0, 6), 11);
  }

  @Says("for each engaged bird on it, its weight, and a fifth (cut)")
  static void theFifthIsCutForEachBird() {
    BirdParlour x = Parlours.withBirds(2);
    x.point(0, 0, 0, 4);
    x.point(1, 0, 0, 4);
    Edges.due("load", x.spring(0, 6), 10);
  }

  @Says("for each engaged bird on it")
  static void aBirdThatIsNotEngagedIsNoLoad() {
    BirdParlour x = spring(10, 20000);
    x.addBird(0, 20, 8, 1, 1);
    x.point(0, 0, 0, 100);
    x.engage(0, false);
    x.run(1);
    Edges.due("speed", x.spring(0, 3), 100);
  }

  @Says("for each engaged bird on it")
  static void aBirdOnAnotherSpringIsNoLoad() {
    BirdParlour x = spring(10, 20000);
    x.addSpring(1);
    x.addBird(1, 20, 8, 1, 1);
    x.run(1);
    Edges.due("speed", x.spring(0, 3), 100);
  }

  @Says("at its place")
  static void theLoadOfATickIsThatOfThePlaceAheadOfIt() {
    BirdParlour x = spring(50, 16000);
    x.addBird(0, 0, 15, 7, 3);
    for (int cam = 0; cam < 3; cam++) {
      x.point(0, cam, 0, 0);
      x.point(0, cam, 14, 100);
    }
    x.run(1);
    Edges.due("place", x.bird(0, 5), 14);
    Edges.due("speed from the place 0, 800000 / 2000", x.spring(0, 3), 400);
    Edges.due("load at the place 14, 10 + 300 / 5", x.spring(0, 6), 70);
    x.run(1);
    Edges.due("speed from the place 14, 780000 / 14000", x.spring(0, 3), 55);
  }

  @Says("each pin at a place that it comes to sounds: place by "
      + "place from the one behind the old one to the new one")
  static void thePlaceWhereItWasDoesNotSound() {
    BirdParlour x = Parlours.fast(10, 1, 1);
    x.pin(0, 0, 0);
    Edges.due("from 0 to 4", x.run(1), 0);
    x.pin(0, 4, 0);
    Edges.due("from 4 to 8", x.run(1), 0);
  }

  @Says("each pin at a place that it comes to sounds: place by "
      + "place from the one behind the old one to the new one")
  static void theNewPlaceSounds() {
    BirdParlour x = Parlours.fast(10, 1, 1);
    x.pin(0, 4, 0);
    Edges.due("from 0 to 4", x.run(1), 1);
  }

  @Says("each pin at a place that it comes to sounds: place by "
      + "place from the one behind the old one to the new one")
  static void thePlaceBehindTheNewOneDoesNotSound() {
    BirdParlour x = Parlours.fast(10, 1, 1);
    x.pin(0, 5, 0);
    Edges.due("from 0 to 4", x.run(1), 0);
    Edges.due("from 4 to 8", x.run(1), 1);
  }

  @Says("each pin at a place that it comes to sounds: place by "
      + "place from the one behind the old one to the new one")
  static void thePlaceBehindTheOldOneSoundsFirst() {
    BirdParlour x = Parlours.fast(10, 1, 1);
    x.pin(0, 4, 0);
    x.pin(0, 2, 1);
    x.pin(0, 1, 5);
    x.run(1);
    dueNote(x, 0, 1, 0, 5, 70);
    dueNote(x, 1, 1, 0, 1, 62);
    dueNote(x, 2, 1, 0, 0, 60);
  }

  @Says("each pin at a place that it comes to sounds")
  static void aBarrelThatComesToNoNewPlaceSoundsNothing() {
    BirdParlour x = Parlours.slow(8, 1, 12);
    for (int place = 0; place < 8; place++) {
      x.pin(0, place, 0);
    }
    Edges.due("notes", x.run(500), 0);
    Edges.due("shaft", x.spring(0, 2), 500);
  }

  @Says("place by place from the one behind the old one to the new one")
  static void roundTheBarrelThePlace0SoundsBehindTheLastOne() {
    BirdParlour x = Parlours.fast(10, 1, 1);
    x.pin(0, 0, 0);
    x.pin(0, 1, 1);
    x.pin(0, 9, 2);
    x.pin(0, 2, 3);
    x.run(2);
    x.emptySongs();
    // from 8 to 12: the places 9, 0, 1 and 2
    Edges.due("notes", x.run(1), 4);
    dueNote(x, 0, 3, 0, 2, 64);
    dueNote(x, 1, 3, 0, 0, 60);
    dueNote(x, 2, 3, 0, 1, 62);
    dueNote(x, 3, 3, 0, 3, 66);
  }

  /** Barrels of 15 places, with a pin at each: the lever is the place by the remainder of 6. */
  private static BirdParlour fifteen(int p, int q) {
    BirdParlour x = Parlours.fast(15, p, q);
    for (int place = 0; place < 15; place++) {
      x.pin(0, place, place % 6);
    }
    return x;
  }

  private static void duePlaces(BirdParlour x, int first, int notes) {
    Edges.due("notes", x.run(1), notes);
    for (int k = 0; k < notes; k++) {
      Edges.due("lever " + k, x.sung(k, 2), (first + k) % 15 % 6);
    }
  }

  @Says("(if the barrel has gone a whole round or more in this tick, only the last n places)")
  static void aPlaceLessThanARoundSoundsAllButTheOldPlace() {
    duePlaces(fifteen(7, 3), 1, 14);
  }

  @Says("(if the barrel has gone a whole round or more in this tick, only the last n places)")
  static void justARoundSoundsEachPlaceOnceAndTheOldOneLast() {
    duePlaces(fifteen(5, 2), 1, 15);
  }

  @Says("(if the barrel has gone a whole round or more in this tick, only the last n places)")
  static void aPlaceMoreThanARoundSoundsEachPlaceOnce() {
    duePlaces(fifteen(8, 3), 2, 15);
  }

  @Says("(if the barrel has gone a whole round or more in this tick, only the last n places)")
  static void severalRoundsSoundEachPlaceOnce() {
    // 72 places: from 58, which is the place 13, to 72, the place 12
    duePlaces(fifteen(12, 1), 13, 15);
  }

  @Says("at one place in ascending order of the levers")
  static void theLeversOfAPlaceSoundInAscendingOrder() {
    BirdParlour x = Parlours.fast(10, 1, 1);
    for (int lever = 5; lever >= 0; lever--) {
      x.pin(0, 3, lever);
      x.tune(0, lever, 5 - lever);
    }
    Edges.due("notes", x.run(1), 6);
    for (int lever = 0; lever < 6; lever++) {
      dueNote(x, lever, 1, 0, lever, 5 - lever);
    }
  }

  @Says("Then, bird by bird of those engaged on it")
  static void theBirdsOfASpringSoundInTheirOrder() {
    BirdParlour x = Parlours.fast(10, 1, 1);
    for (int k = 1; k < 8; k++) {
      x.addBird(0, 0, 10, 1, 1);
    }
    for (int k = 7; k >= 0; k--) {
      x.pin(k, k == 0 ? 4 : 1, 0);
    }
    x.engage(3, false);
    Edges.due("notes", x.run(1), 7);
    for (int k = 0; k < 7; k++) {
      dueNote(x, k, 1, k < 3 ? k : k + 1, 0, 60);
    }
  }

  @Says("Then, spring by spring in ascending order")
  static void theBirdsOfALowerSpringSoundFirst() {
    BirdParlour x = new BirdParlour();
    for (int k = 0; k < 4; k++) {
      x.addSpring(50);
      x.wind(k, 200000);
    }
    for (int bird = 0; bird < 8; bird++) {
      x.addBird(3 - bird % 4, 0, 10, 1, 1);
      x.pin(bird, 1, 0);
    }
    x.run(1);
    int[] due = {3, 7, 2, 6, 1, 5, 0, 4};
    for (int k = 0; k < 8; k++) {
      Edges.due("bird of " + k, x.sung(k, 1), due[k]);
    }
  }

  /** A bird that comes to the place 1 in the first tick, in which its spring goes 1. */
  private static BirdParlour atOnce(int held, int pins) {
    BirdParlour x = spring(1, held);
    x.addBird(0, 0, 96, 12, 1);
    for (int lever = 0; lever < pins; lever++) {
      x.pin(0, 1, lever);
    }
    Edges.due("notes", x.run(1), pins);
    return x;
  }

  @Says("Each note that sounds takes a hundredth of a turn (10 thousandths) from what the spring "
      + "holds")
  static void aNoteTakes10Thousandths() {
    Edges.due("holds", atOnce(12, 1).spring(0, 1), 1);
    Edges.due("holds", atOnce(1001, 1).spring(0, 1), 990);
    Edges.due("holds", atOnce(1001, 6).spring(0, 1), 940);
  }

  @Says("Each note that sounds takes a hundredth of a turn (10 thousandths) from what the spring "
      + "holds")
  static void aNoteTakesJustTheLast10() {
    Edges.due("holds", atOnce(11, 1).spring(0, 1), 0);
    Edges.due("holds", atOnce(31, 3).spring(0, 1), 0);
  }

  @Says("or all of this, if it is less")
  static void aNoteTakesAllIfItIsLess() {
    Edges.due("holds", atOnce(10, 1).spring(0, 1), 0);
    Edges.due("holds", atOnce(2, 1).spring(0, 1), 0);
    Edges.due("holds", atOnce(30, 3).spring(0, 1), 0);
  }

  @Says("or all of this, if it is less")
  static void aNoteTakesNothingFromASpringThatHolds0() {
    Edges.due("holds", atOnce(1, 1).spring(0, 1), 0);
    Edges.due("holds", atOnce(1, 6).spring(0, 1), 0);
    Edges.due("holds", atOnce(12, 3).spring(0, 1), 0);
  }

  @Says("from what the spring holds")
  static void aNoteTakesNothingFromAnotherSpring() {
    BirdParlour x = spring(1, 1);
    x.addSpring(1);
    x.wind(1, 1000);
    x.brake(1, true);
    x.addBird(0, 0, 96, 12, 1);
    x.pin(0, 1, 0);
    Edges.due("notes", x.run(1), 1);
    Edges.due("the other holds", x.spring(1, 1), 1000);
  }

  @Says("Each note that sounds takes a hundredth of a turn")
  static void theNotesPriceIsNoWayOfTheShaft() {
    BirdParlour x = atOnce(1001, 6);
    Edges.due("shaft", x.spring(0, 2), 1);
    Edges.due("speed", x.spring(0, 3), 1);
  }

  // ---- the terms: songs

  /** So many notes have sounded, 25 in each tick but the last ones. */
  private static BirdParlour withNotes(int notes) {
    BirdParlour x = Parlours.loud();
    int sounded = notes >= 25 ? x.run(notes / 25) : 0;
    x.engage(0, false);
    for (int place = 1; place < 5; place++) {
      x.pin(1, place, 0);
    }
    // one note a tick now
    sounded += notes % 25 > 0 ? x.run(notes % 25) : 0;
    Edges.due("notes", sounded, notes);
    return x;
  }

  @Says("Each note that sounds is kept (the first 250 since the songs were emptied; all are "
      + "counted)")
  static void of249NotesAllAreKept() {
    BirdParlour x = withNotes(249);
    Edges.due("counted", x.count(4), 249);
    Edges.due("the last", x.sung(248, 1), 1);
    Edges.due("kept", x.emptySongs(), 249);
  }

  @Says("Each note that sounds is kept (the first 250 since the songs were emptied; all are "
      + "counted)")
  static void the250thNoteIsKept() {
    BirdParlour x = withNotes(250);
    Edges.due("counted", x.count(4), 250);
    Edges.due("the last", x.sung(249, 0), 10);
    Edges.due("kept", x.emptySongs(), 250);
  }

  @Says("Each note that sounds is kept (the first 250 since the songs were emptied; all are "
      + "counted)")
  static void the251stNoteIsCountedAndNotKept() {
    BirdParlour x = withNotes(251);
    Edges.due("counted", x.count(4), 251);
    Edges.due("the last kept", x.sung(249, 0), 10);
    Edges.due("kept", x.emptySongs(), 250);
    Edges.refused(Edges.INDEX, () -> withNotes(251), y -> y.sung(250, 0));
  }

  @Says("the first 250 since the songs were emptied")
  static void theFirstNoteStaysTheFirst() {
    BirdParlour x = withNotes(275);
    dueNote(x, 0, 1, 0, 0, 60);
    Edges.due("kept of the tick 11", x.chord(11), 0);
  }

  @Says("the first 250 since the songs were emptied")
  static void behindEmptySongs250AreKeptAgain() {
    BirdParlour x = Parlours.loud();
    x.run(11);
    x.emptySongs();
    x.run(11);
    Edges.due("counted", x.count(4), 275);
    Edges.due("the first kept", x.sung(0, 0), 12);
    Edges.due("the last kept", x.sung(249, 0), 21);
    Edges.due("kept", x.emptySongs(), 250);
  }

  @Says("(the ticks are numbered from 1)")
  static void theFirstTickIsTheTick1() {
    BirdParlour x = Parlours.fast(10, 1, 1);
    x.pin(0, 1, 0);
    x.run(1);
    Edges.due("tick", x.count(0), 1);
    Edges.due("tick of the note", x.sung(0, 0), 1);
    Edges.due("chord(1)", x.chord(1), 1);
  }

  @Says("(the ticks are numbered from 1)")
  static void ticksInWhichNothingGoesCountAlso() {
    BirdParlour x = new BirdParlour();
    x.run(500);
    Edges.due("tick of an empty parlour", x.count(0), 500);
    x.addSpring(50);
    x.wind(0, 200000);
    x.brake(0, true);
    x.run(1);
    Edges.due("tick with a braked spring", x.count(0), 501);
  }

  @Says("Each note that sounds is kept")
  static void aKeptNoteStaysWhenItsLeverIsTuned() {
    BirdParlour x = Parlours.fast(10, 1, 1);
    x.pin(0, 1, 0);
    x.run(1);
    x.tune(0, 0, 87);
    dueNote(x, 0, 1, 0, 0, 60);
  }

  // ---- promise 14

  @Says("Throws `IllegalArgumentException` if ticks is not 1 to 500")
  static void oneTickAnd500AreFine() {
    BirdParlour x = Parlours.fast(10, 1, 1);
    x.run(1);
    Edges.due("tick", x.count(0), 1);
    x.run(500);
    Edges.due("tick", x.count(0), 501);
  }

  @Says("Throws `IllegalArgumentException` if ticks is not 1 to 500")
  static void lessThanATickIsRefused() {
    Edges.refused(Edges.ARGUMENT, Parlours::lively, x -> x.run(0), x -> x.run(-1),
        x -> x.run(-500), x -> x.run(MIN));
    Edges.refused(Edges.ARGUMENT, Parlours::empty, x -> x.run(0));
  }

  @Says("Throws `IllegalArgumentException` if ticks is not 1 to 500")
  static void moreThan500TicksAreRefused() {
    Edges.refused(Edges.ARGUMENT, Parlours::lively, x -> x.run(501), x -> x.run(2000),
        x -> x.run(MAX));
    Edges.refused(Edges.ARGUMENT, Parlours::empty, x -> x.run(501));
  }

  @Says("Returns how many notes sounded.")
  static void aRunAlsoCountsNotesThatAreNotKept() {
    BirdParlour x = Parlours.loud();
    Edges.due("run(11)", x.run(11), 275);
    Edges.due("run(2)", x.run(2), 50);
    x.emptySongs();
    Edges.due("run(1), emptied", x.run(1), 25);
  }

  @Says("Returns how many notes sounded.")
  static void withoutPinsOrBirdsNoneSounds() {
    Edges.due("without springs", new BirdParlour().run(500), 0);
    Edges.due("without birds", spring(50, 200000).run(500), 0);
    Edges.due("without pins", Parlours.fast(8, 12, 1).run(500), 0);
  }

  @Says("Lets ticks go by.")
  static void ticksAtOnceAreTicksOneByOne() {
    BirdParlour x = Parlours.lively();
    BirdParlour y = Parlours.lively();
    int notes = 0;
    for (int k = 0; k < 150; k++) {
      notes += y.run(1);
    }
    Edges.due("notes", x.run(150), notes);
    Edges.dueAlike("run", x, y);
  }

  @Says("A method that throws an exception changes nothing.")
  static void aRefusedRunChangesNothing() {
    Edges.changeNothing(Parlours::lively, x -> x.run(0), x -> x.run(-1), x -> x.run(501),
        x -> x.run(MAX));
  }

  // ---- promise 15

  @Says("0 the tick, 1 springs, 2 birds, 3 pairs that are coupled, 4 notes that sounded since the "
      + "songs were emptied, 5 what all springs hold")
  static void counting0To5IsFine() {
    BirdParlour x = withNotes(251);
    x.addSpring(2);
    x.wind(1, 77);
    x.couple(0, 1, true);
    // a price of 251 notes, and 11 ticks
    int[] due = {11, 2, 2, 1, 251, 200000 - 11 * 400 - 2510 + 77};
    for (int what = 0; what <= 5; what++) {
      Edges.due("count(" + what + ")", x.count(what), due[what]);
    }
  }

  @Says("5 what all springs hold")
  static void allSpringsHold800000AtMost() {
    BirdParlour x = Parlours.withSprings(4);
    for (int k = 0; k < 4; k++) {
      x.wind(k, 200000);
    }
    x.brake(2, true);
    Edges.due("count(5)", x.count(5), 800000);
  }

  @Says("4 notes that sounded since the songs were emptied")
  static void emptiedTheCountBeginsAt0() {
    BirdParlour x = withNotes(251);
    x.emptySongs();
    Edges.due("count(4)", x.count(4), 0);
    x.run(1);
    Edges.due("count(4) behind a tick", x.count(4), 1);
  }

  @Says("Throws `IndexOutOfBoundsException` if what is not 0 to 5")
  static void countingBelow0IsRefused() {
    Edges.refused(Edges.INDEX, Parlours::lively, x -> x.count(-1), x -> x.count(MIN));
  }

  @Says("Throws `IndexOutOfBoundsException` if what is not 0 to 5")
  static void countingAbove5IsRefused() {
    Edges.refused(Edges.INDEX, Parlours::lively, x -> x.count(6), x -> x.count(MAX));
  }

  @Says("A method that throws an exception changes nothing.")
  static void aRefusedCountChangesNothing() {
    Edges.changeNothing(Parlours::lively, x -> x.count(-1), x -> x.count(6));
  }

  // ---- promise 16

  @Says("a note that is kept, in the order in which they sounded, from 0")
  static void theFirstAndTheLastKeptNoteAreTold() {
    BirdParlour x = withNotes(26);
    dueNote(x, 0, 1, 0, 0, 60);
    dueNote(x, 25, 2, 1, 0, 60);
  }

  @Says("Throws `IndexOutOfBoundsException` if there is no such note")
  static void aNoteWhenNoneIsKeptIsRefused() {
    Edges.refused(Edges.INDEX, Parlours::empty, x -> x.sung(0, 0));
    Edges.refused(Edges.INDEX, () -> withNotes(0), x -> x.sung(0, 3));
    BirdParlour x = withNotes(30);
    x.emptySongs();
    Edges.refused(Edges.INDEX, () -> x, y -> y.sung(0, 0), y -> y.sung(29, 3));
  }

  @Says("Throws `IndexOutOfBoundsException` if there is no such note")
  static void aNoteBelow0IsRefused() {
    Edges.refused(Edges.INDEX, () -> withNotes(30), x -> x.sung(-1, 0), x -> x.sung(-1, 3),
        x -> x.sung(MIN, 0));
  }

  @Says("Throws `IndexOutOfBoundsException` if there is no such note")
  static void aNoteBehindTheLastKeptOneIsRefused() {
    Edges.refused(Edges.INDEX, () -> withNotes(30), x -> x.sung(30, 0), x -> x.sung(249, 0),
        x -> x.sung(1 << 30, 0), x -> x.sung(MAX, 3));
    Edges.refused(Edges.INDEX, () -> withNotes(275), x -> x.sung(250, 0), x -> x.sung(274, 3));
  }

  @Says("or what is not 0 to 3")
  static void askingANoteBelow0IsRefused() {
    Edges.refused(Edges.INDEX, () -> withNotes(30), x -> x.sung(3, -1), x -> x.sung(29, MIN));
  }

  @Says("or what is not 0 to 3")
  static void askingANoteAbove3IsRefused() {
    Edges.refused(Edges.INDEX, () -> withNotes(30), x -> x.sung(3, 4), x -> x.sung(29, MAX));
  }

  @Says("A method that throws an exception changes nothing.")
  static void aRefusedQuestionAboutANoteChangesNothing() {
    Edges.changeNothing(Parlours::lively, x -> x.sung(-1, 0), x -> x.sung(250, 0),
        x -> x.sung(0, -1), x -> x.sung(0, 4));
  }

  // ---- promise 17

  @Says("Throws `IllegalArgumentException` if tick is less than 0")
  static void theChordOfATickBelow0IsRefused() {
    Edges.refused(Edges.ARGUMENT, Parlours::empty, x -> x.chord(-1));
    Edges.refused(Edges.ARGUMENT, () -> withNotes(30), x -> x.chord(-1), x -> x.chord(MIN));
  }

  @Says("Throws `IllegalArgumentException` if tick is less than 0")
  static void theChordOfTheTick0IsNothing() {
    Edges.due("of an empty parlour", new BirdParlour().chord(0), 0);
    Edges.due("of a loud one", withNotes(30).chord(0), 0);
  }

  @Says("Returns how many different notes are kept that sounded at it.")
  static void theChordOfATickToComeIsNothing() {
    BirdParlour x = withNotes(30);
    Edges.due("the next tick", x.chord(x.count(0) + 1), 0);
    Edges.due("the last of all", x.chord(MAX), 0);
  }

  @Says("Returns how many different notes are kept that sounded at it.")
  static void theSameNoteCountsOnce() {
    BirdParlour x = Parlours.fast(10, 1, 1);
    x.addBird(0, 0, 10, 1, 1);
    for (int bird = 0; bird < 2; bird++) {
      for (int lever = 0; lever < 6; lever++) {
        x.pin(bird, 1, lever);
        x.tune(bird, lever, 33);
      }
    }
    Edges.due("notes", x.run(1), 12);
    Edges.due("chord", x.chord(1), 1);
  }

  @Says("Returns how many different notes are kept that sounded at it.")
  static void all88NotesAreDifferent() {
    BirdParlour x = Parlours.fast(8, 5, 2);
    for (int k = 1; k < 8; k++) {
      x.addBird(0, 0, 8, 5, 2);
    }
    for (int k = 0; k < 48; k++) {
      x.tune(k / 6, k % 6, k);
      x.pin(k / 6, k % 6, k % 6);
    }
    x.run(1);
    Edges.due("48 notes of 0 to 47", x.chord(1), 48);
    for (int k = 0; k < 48; k++) {
      x.tune(k / 6, k % 6, 40 + k);
    }
    x.run(1);
    Edges.due("48 notes of 40 to 87", x.chord(2), 48);
    for (int k = 0; k < 48; k++) {
      x.tune(k / 6, k % 6, k % 2 * 64 + k / 2);
    }
    x.run(1);
    Edges.due("24 notes of 0 to 23, 24 of 64 to 87", x.chord(3), 48);
  }

  @Says("Returns how many different notes are kept that sounded at it.")
  static void notesThatAreNotKeptAreNotInTheChord() {
    BirdParlour x = withNotes(249);
    x.pin(1, 0, 5);
    x.pin(1, 0, 3);
    Edges.due("three more", x.run(1), 3);
    Edges.due("one of them is kept", x.chord(x.count(0)), 1);
  }

  @Says("Empties the songs.")
  static void theChordOfEmptiedSongsIsNothing() {
    BirdParlour x = withNotes(30);
    Edges.due("chord(1)", x.chord(1), 3);
    x.emptySongs();
    Edges.due("chord(1), emptied", x.chord(1), 0);
  }

  @Says("A method that throws an exception changes nothing.")
  static void aRefusedChordChangesNothing() {
    Edges.changeNothing(Parlours::lively, x -> x.chord(-1), x -> x.chord(MIN));
  }

  // ---- promise 18

  @Says("Returns the most kept notes of one bird that sounded one behind the other")
  static void longestOfNoNotesIs0() {
    Edges.due("of an empty parlour", new BirdParlour().longest(), 0);
    BirdParlour x = withNotes(30);
    x.emptySongs();
    Edges.due("emptied", x.longest(), 0);
  }

  @Says("Returns the most kept notes of one bird that sounded one behind the other")
  static void longestOfOneNoteIs1() {
    Edges.due("of the first bird", atOnce(100, 1).longest(), 1);
    Edges.due("of the second bird", withNotes(1).longest(), 1);
  }

  @Says("with no note of another bird between")
  static void longestOfBirdsByTurnsIs1() {
    BirdParlour x = Parlours.fast(10, 1, 1);
    x.addBird(0, 0, 10, 1, 1);
    x.pin(0, 4, 0);
    x.pin(1, 4, 0);
    x.run(1);
    Edges.due("two birds", x.longest(), 1);
    x.run(10);
    Edges.due("two birds by turns", x.longest(), 1);
  }

  @Says("with no note of another bird between")
  static void longestGoesOnOverTicks() {
    BirdParlour x = Parlours.loud();
    x.engage(1, false);
    x.run(3);
    Edges.due("three ticks of one bird", x.longest(), 60);
    x.engage(1, true);
    x.run(1);
    Edges.due("and one of both", x.longest(), 80);
    x.run(1);
    Edges.due("and another", x.longest(), 80);
  }

  @Says("with no note of another bird between")
  static void theLongestRowMayBeTheLastOrTheFirst() {
    BirdParlour x = Parlours.loud();
    x.run(1);
    Edges.due("the first", x.longest(), 20);
    x.engage(0, false);
    x.run(4);
    Edges.due("the last", x.longest(), 25);
  }

  @Says("Returns the most kept notes of one bird")
  static void longestIs250AtMost() {
    BirdParlour x = Parlours.loud();
    x.engage(1, false);
    Edges.due("notes", x.run(20), 400);
    Edges.due("longest", x.longest(), 250);
  }

  // ---- promise 19

  @Says("Returns how many notes were kept.")
  static void emptyingEmptySongsAnswers0() {
    Edges.due("of an empty parlour", new BirdParlour().emptySongs(), 0);
    BirdParlour x = withNotes(30);
    Edges.due("emptySongs", x.emptySongs(), 30);
    Edges.due("again", x.emptySongs(), 0);
  }

  @Says("Returns how many notes were kept.")
  static void emptyingMoreThan250NotesAnswers250() {
    Edges.due("emptySongs", withNotes(275).emptySongs(), 250);
  }

  @Says("Empties the songs.")
  static void emptyingChangesNothingButTheSongs() {
    BirdParlour x = withNotes(251);
    int held = x.spring(0, 1);
    x.emptySongs();
    Edges.due("tick", x.count(0), 11);
    Edges.due("holds", x.spring(0, 1), held);
    Edges.due("notes of the first bird", x.bird(0, 9), 200);
    Edges.due("notes of the second bird", x.bird(1, 9), 51);
    x.run(1);
    dueNote(x, 0, 12, 1, 0, 60);
  }
}
