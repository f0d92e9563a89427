/** The edges that the terms of birds, pins and cams and the promises 7 to 13 name. */
public final class EdgesOfBirdsTest {
  private static final int MIN = Integer.MIN_VALUE;
  private static final int MAX = Integer.MAX_VALUE;

  public static void main(String[] args) throws IllegalAccessException {
    Edges.runAll(EdgesOfBirdsTest.class);
  }

  // ---- the terms: birds

  @Says("There are at most 8, numbered likewise.")
  static void birdsAreNumberedFrom0InTheirOrder() {
    BirdParlour x = Parlours.withSprings(2);
    for (int k = 0; k < 8; k++) {
      Edges.due("addBird", x.addBird(k % 2, 10 + k, 8, 1, 1), k);
    }
    for (int k = 0; k < 8; k++) {
      Edges.due("the weight of " + k, x.bird(k, 1), 10 + k);
    }
  }

  @Says("numbered likewise")
  static void aRefusedBirdTakesNoNumber() {
    BirdParlour x = Parlours.withBirds(1);
    try {
      x.addBird(0, 21, 8, 1, 1);
    } catch (IllegalArgumentException e) {
      Edges.due("the next number", x.addBird(0, 3, 8, 1, 1), 1);
    }
    Edges.due("its weight", x.bird(1, 1), 3);
  }

  /** A shaft that has gone a thousandth less than the barrel needs for its first place. */
  private static BirdParlour justBelowAPlace() {
    BirdParlour x = Parlours.slow(8, 1, 12);
    x.run(500);
    x.run(500);
    x.run(499);
    Edges.due("the shaft", x.spring(0, 2), 1499);
    return x;
  }

  @Says("the barrel has gone s * p * n / (1000 * q) places in all, cut, since it was engaged")
  static void justBelowAPlaceTheBarrelHasGoneNone() {
    Edges.due("gone 1499 * 8 / 12000", justBelowAPlace().bird(0, 8), 0);
  }

  @Says("the barrel has gone s * p * n / (1000 * q) places in all, cut, since it was engaged")
  static void justAtAPlaceTheBarrelHasGoneIt() {
    BirdParlour x = justBelowAPlace();
    x.run(1);
    Edges.due("gone 1500 * 8 / 12000", x.bird(0, 8), 1);
  }

  @Says("the barrel has gone s * p * n / (1000 * q) places in all, cut, since it was engaged")
  static void whatIsCutIsNotLost() {
    BirdParlour x = Parlours.slow(96, 12, 1);
    for (int s = 1; s <= 100; s++) {
      x.run(1);
      Edges.due("gone behind " + s, x.bird(0, 8), s * 1152 / 1000);
    }
  }

  @Says("the barrel has gone s * p * n / (1000 * q) places in all, cut, since it was engaged")
  static void aBarrelThatHasGoneFarDoesNotWrapAround() {
    BirdParlour x = Parlours.fast(96, 12, 1);
    for (int k = 1; k <= 120; k++) {
      x.run(450);
      x.wind(0, 200000);
    }
    long shaft = x.spring(0, 2);
    Edges.due("the shaft", shaft, 120 * 450 * 400);
    Edges.due("gone", x.bird(0, 8), shaft * 1152 / 1000);
    Edges.due("place", x.bird(0, 5), shaft * 1152 / 1000 % 96);
  }

  @Says("its place is that by the remainder of n")
  static void theLastPlaceIsNLess1() {
    BirdParlour x = Parlours.fast(15, 7, 3);
    x.run(1);
    Edges.due("gone", x.bird(0, 8), 14);
    Edges.due("place", x.bird(0, 5), 14);
  }

  @Says("its place is that by the remainder of n")
  static void behindTheLastPlaceComesThePlace0() {
    BirdParlour x = Parlours.fast(15, 5, 2);
    x.run(1);
    Edges.due("gone", x.bird(0, 8), 15);
    Edges.due("place", x.bird(0, 5), 0);
    BirdParlour y = Parlours.fast(15, 8, 3);
    y.run(1);
    Edges.due("gone", y.bird(0, 8), 16);
    Edges.due("place", y.bird(0, 5), 1);
  }

  @Says("A bird is engaged or not (engaged, at first)")
  static void aBirdIsEngagedAtFirst() {
    BirdParlour x = Parlours.withBirds(8);
    for (int k = 0; k < 8; k++) {
      Edges.due("engaged", x.bird(k, 6), 1);
    }
  }

  @Says("since it was engaged")
  static void aBirdAddedLateBeginsAtThePlace0() {
    BirdParlour x = justBelowAPlace();
    x.addBird(0, 0, 8, 1, 12);
    Edges.due("place", x.bird(1, 5), 0);
    Edges.due("gone", x.bird(1, 8), 0);
    x.run(1);
    Edges.due("gone of the first", x.bird(0, 8), 1);
    Edges.due("gone of the late one", x.bird(1, 8), 0);
  }

  @Says("when it is engaged anew, its barrel begins at the place 0 again, and the shaft counts for "
      + "it from where it is")
  static void engagedAnewTheBarrelBeginsAtThePlace0() {
    BirdParlour x = Parlours.fast(10, 1, 1);
    x.run(3);
    Edges.due("place", x.bird(0, 5), 2);
    x.engage(0, false);
    x.engage(0, true);
    Edges.due("place", x.bird(0, 5), 0);
    Edges.due("gone", x.bird(0, 8), 0);
  }

  @Says("when it is engaged anew, its barrel begins at the place 0 again, and the shaft counts for "
      + "it from where it is")
  static void engagedAnewTheShaftCountsFromWhereItIs() {
    BirdParlour x = justBelowAPlace();
    x.engage(0, false);
    x.engage(0, true);
    x.run(1);
    Edges.due("gone behind 1", x.bird(0, 8), 0);
    x.wind(0, 2000);
    x.run(500);
    x.run(500);
    x.run(498);
    Edges.due("gone behind 1499", x.bird(0, 8), 0);
    x.run(1);
    Edges.due("gone behind 1500", x.bird(0, 8), 1);
  }

  @Says("when it is engaged anew, its barrel begins at the place 0 again, and the shaft counts for "
      + "it from where it is")
  static void theWayOfTheShaftWhileItIsNotEngagedDoesNotCount() {
    BirdParlour x = Parlours.fast(10, 1, 1);
    x.run(1);
    x.engage(0, false);
    x.run(7);
    x.engage(0, true);
    x.run(1);
    Edges.due("gone", x.bird(0, 8), 4);
  }

  @Says("While it is not engaged, its barrel stands where it stood.")
  static void aBarrelThatIsNotEngagedStands() {
    BirdParlour x = Parlours.fast(10, 1, 1);
    x.run(3);
    x.engage(0, false);
    Edges.due("place", x.bird(0, 5), 2);
    x.run(50);
    Edges.due("place behind ticks", x.bird(0, 5), 2);
    Edges.due("gone behind ticks", x.bird(0, 8), 12);
  }

  // ---- promise 7

  @Says("it has a weight, 0 to 20")
  static void weights0And20AreFine() {
    BirdParlour x = Parlours.withSprings(1);
    Edges.due("addBird", x.addBird(0, 0, 8, 1, 1), 0);
    Edges.due("addBird", x.addBird(0, 20, 8, 1, 1), 1);
    Edges.due("weight", x.bird(0, 1), 0);
    Edges.due("weight", x.bird(1, 1), 20);
  }

  @Says("Throws `IllegalArgumentException` if weight is not 0 to 20")
  static void aWeightBelow0IsRefused() {
    Edges.refused(Edges.ARGUMENT, Parlours::lively, x -> x.addBird(0, -1, 8, 1, 1),
        x -> x.addBird(0, MIN, 8, 1, 1));
  }

  @Says("Throws `IllegalArgumentException` if weight is not 0 to 20")
  static void aWeightAbove20IsRefused() {
    Edges.refused(Edges.ARGUMENT, Parlours::lively, x -> x.addBird(0, 21, 8, 1, 1),
        x -> x.addBird(0, MAX, 8, 1, 1));
  }

  @Says("its barrel has n places, 8 to 96")
  static void barrelsOf8And96PlacesAreFine() {
    BirdParlour x = Parlours.withSprings(1);
    Edges.due("addBird", x.addBird(0, 0, 8, 1, 1), 0);
    Edges.due("addBird", x.addBird(0, 0, 96, 1, 1), 1);
    Edges.due("n", x.bird(0, 2), 8);
    Edges.due("n", x.bird(1, 2), 96);
  }

  @Says("places is not 8 to 96")
  static void aBarrelOfLessThan8PlacesIsRefused() {
    Edges.refused(Edges.ARGUMENT, Parlours::lively, x -> x.addBird(0, 0, 7, 1, 1),
        x -> x.addBird(0, 0, 0, 1, 1), x -> x.addBird(0, 0, -8, 1, 1),
        x -> x.addBird(0, 0, MIN, 1, 1));
  }

  @Says("places is not 8 to 96")
  static void aBarrelOfMoreThan96PlacesIsRefused() {
    Edges.refused(Edges.ARGUMENT, Parlours::lively, x -> x.addBird(0, 0, 97, 1, 1),
        x -> x.addBird(0, 0, MAX, 1, 1));
  }

  @Says("goes p / q (each 1 to 12) as fast as the shaft")
  static void gearsOf1And12AreFine() {
    BirdParlour x = Parlours.withSprings(1);
    Edges.due("addBird", x.addBird(0, 0, 8, 1, 12), 0);
    Edges.due("addBird", x.addBird(0, 0, 8, 12, 1), 1);
    Edges.due("p and q of 0", x.bird(0, 3) * 100 + x.bird(0, 4), 112);
    Edges.due("p and q of 1", x.bird(1, 3) * 100 + x.bird(1, 4), 1201);
  }

  @Says("or p or q is not 1 to 12")
  static void aGearBelow1IsRefused() {
    Edges.refused(Edges.ARGUMENT, Parlours::lively, x -> x.addBird(0, 0, 8, 0, 1),
        x -> x.addBird(0, 0, 8, 1, 0), x -> x.addBird(0, 0, 8, -1, 1),
        x -> x.addBird(0, 0, 8, 1, -1), x -> x.addBird(0, 0, 8, MIN, MIN),
        x -> x.addBird(0, 0, 8, 0, 0));
  }

  @Says("or p or q is not 1 to 12")
  static void aGearAbove12IsRefused() {
    Edges.refused(Edges.ARGUMENT, Parlours::lively, x -> x.addBird(0, 0, 8, 13, 1),
        x -> x.addBird(0, 0, 8, 1, 13), x -> x.addBird(0, 0, 8, MAX, 1),
        x -> x.addBird(0, 0, 8, 1, MAX));
  }

  @Says("Throws `IndexOutOfBoundsException` if there is no such spring")
  static void aBirdOfNoSuchSpringIsRefused() {
    Edges.refused(Edges.INDEX, Parlours::empty, x -> x.addBird(0, 0, 8, 1, 1));
    Edges.refused(Edges.INDEX, () -> Parlours.withSprings(3), x -> x.addBird(3, 0, 8, 1, 1),
        x -> x.addBird(-1, 0, 8, 1, 1), x -> x.addBird(MIN, 0, 8, 1, 1),
        x -> x.addBird(MAX, 0, 8, 1, 1));
    Edges.refused(Edges.INDEX, () -> Parlours.withSprings(4), x -> x.addBird(4, 0, 8, 1, 1));
  }

  @Says("There are at most 8")
  static void anEighthBirdIsFine() {
    BirdParlour x = Parlours.withBirds(7);
    Edges.due("the eighth", x.addBird(0, 0, 8, 1, 1), 7);
    Edges.due("birds", x.count(2), 8);
  }

  @Says("Throws `IllegalStateException` if there are 8")
  static void aNinthBirdIsRefused() {
    Edges.refused(Edges.STATE, () -> Parlours.withBirds(8), x -> x.addBird(0, 0, 8, 1, 1),
        x -> x.addBird(0, 20, 96, 12, 12));
  }

  @Says("If several exceptions apply, the one that is named first is thrown.")
  static void aWrongBirdOfNoSuchSpringIsAWrongIndex() {
    Edges.refused(Edges.INDEX, Parlours::full, x -> x.addBird(4, 21, 8, 1, 1),
        x -> x.addBird(-1, 0, 7, 1, 1), x -> x.addBird(4, 0, 8, 0, 1),
        x -> x.addBird(4, 0, 8, 1, 13), x -> x.addBird(4, 0, 8, 1, 1));
  }

  @Says("If several exceptions apply, the one that is named first is thrown.")
  static void aWrongNinthBirdIsAWrongArgument() {
    Edges.refused(Edges.ARGUMENT, Parlours::full, x -> x.addBird(0, 21, 8, 1, 1),
        x -> x.addBird(0, 0, 97, 1, 1), x -> x.addBird(0, 0, 8, 13, 1),
        x -> x.addBird(0, 0, 8, 1, 0));
  }

  @Says("A method that throws an exception changes nothing.")
  static void aRefusedAddBirdChangesNothing() {
    Edges.changeNothing(Parlours::lively, x -> x.addBird(3, 0, 8, 1, 1),
        x -> x.addBird(0, 21, 8, 1, 1), x -> x.addBird(0, 0, 7, 1, 1),
        x -> x.addBird(0, 0, 8, 1, 13));
    Edges.changeNothing(Parlours::full, x -> x.addBird(0, 0, 8, 1, 1));
  }

  // ---- promise 8

  @Says("Returns whether it was before.")
  static void engageAnswersHowItWasBefore() {
    BirdParlour x = Parlours.withBirds(2);
    Edges.due("engage what is engaged", x.engage(1, true), true);
    Edges.due("disengage", x.engage(1, false), true);
    Edges.due("disengage what is not engaged", x.engage(1, false), false);
    Edges.due("it is not engaged", x.bird(1, 6), 0);
    Edges.due("the other is", x.bird(0, 6), 1);
    Edges.due("engage", x.engage(1, true), false);
    Edges.due("it is engaged", x.bird(1, 6), 1);
  }

  @Says("(nothing is changed, if it is so already)")
  static void engagingABirdThatIsEngagedChangesNothing() {
    BirdParlour x = justBelowAPlace();
    x.engage(0, true);
    x.run(1);
    Edges.due("gone", x.bird(0, 8), 1);
    BirdParlour y = Parlours.lively();
    y.engage(0, true);
    Edges.dueAlike("engage", y, Parlours.lively());
  }

  @Says("(nothing is changed, if it is so already)")
  static void disengagingABirdThatIsNotEngagedChangesNothing() {
    BirdParlour y = Parlours.lively();
    y.engage(2, false);
    Edges.dueAlike("engage", y, Parlours.lively());
  }

  @Says("Throws `IndexOutOfBoundsException` if there is no such bird")
  static void engagingNoSuchBirdIsRefused() {
    Edges.refused(Edges.INDEX, Parlours::empty, x -> x.engage(0, true));
    Edges.refused(Edges.INDEX, () -> Parlours.withBirds(3), x -> x.engage(3, true),
        x -> x.engage(-1, true), x -> x.engage(MIN, false), x -> x.engage(MAX, true));
    Edges.refused(Edges.INDEX, Parlours::full, x -> x.engage(8, true), x -> x.engage(-1, false));
  }

  @Says("A method that throws an exception changes nothing.")
  static void aRefusedEngageChangesNothing() {
    Edges.changeNothing(Parlours::lively, x -> x.engage(3, true), x -> x.engage(3, false),
        x -> x.engage(-1, false), x -> x.engage(-1, true));
    Edges.changeNothing(Parlours::full, x -> x.engage(8, true), x -> x.engage(8, false));
  }

  // ---- promise 9

  @Says("Lays a pin, or takes it away, if it is there.")
  static void aPinThatIsThereIsTakenAway() {
    BirdParlour x = Parlours.fast(10, 1, 1);
    Edges.due("pins at first", x.bird(0, 7), 0);
    Edges.due("laid", x.pin(0, 3, 2), 1);
    Edges.due("taken away", x.pin(0, 3, 2), 0);
    Edges.due("no note", x.run(3), 0);
    Edges.due("laid again", x.pin(0, 3, 2), 1);
    Edges.due("pins", x.bird(0, 7), 1);
  }

  @Says("at different pairs of a place (0 to n - 1) and a lever (0 to 5)")
  static void pinsAtOnePlaceOrOfOneLeverAreOthers() {
    BirdParlour x = Parlours.fast(10, 1, 1);
    Edges.due("a pin", x.pin(0, 3, 2), 1);
    Edges.due("of another lever", x.pin(0, 3, 1), 2);
    Edges.due("at another place", x.pin(0, 4, 2), 3);
    Edges.due("the first away", x.pin(0, 3, 2), 2);
    Edges.due("the others sound", x.run(1), 2);
  }

  @Says("A barrel has at most 24 pins")
  static void a24thPinIsFine() {
    BirdParlour x = Parlours.withPins(23);
    Edges.due("the 24th", x.pin(0, 7, 5), 24);
    Edges.due("pins", x.bird(0, 7), 24);
  }

  @Says("Throws `IllegalStateException` if it is not there, and there are 24")
  static void a25thPinIsRefused() {
    Edges.refused(Edges.STATE, () -> Parlours.withPins(24), x -> x.pin(0, 4, 0),
        x -> x.pin(0, 7, 5));
  }

  @Says("Throws `IllegalStateException` if it is not there, and there are 24")
  static void oneOf24PinsCanBeTakenAway() {
    BirdParlour x = Parlours.withPins(24);
    Edges.due("the last away", x.pin(0, 3, 5), 23);
    Edges.due("another laid", x.pin(0, 7, 5), 24);
    Edges.due("the first away", x.pin(0, 0, 0), 23);
  }

  @Says("A barrel has at most 24 pins")
  static void eachBarrelHas24PinsOfItsOwn() {
    BirdParlour x = Parlours.withPins(24);
    x.addBird(0, 0, 8, 1, 1);
    for (int k = 0; k < 24; k++) {
      Edges.due("laid", x.pin(1, k / 6, k % 6), k + 1);
    }
    Edges.due("pins of the first", x.bird(0, 7), 24);
  }

  @Says("at different pairs of a place (0 to n - 1) and a lever (0 to 5)")
  static void theFirstAndTheLastPlaceAndLeverAreFine() {
    BirdParlour x = Parlours.withBirds(1);
    x.addBird(0, 0, 96, 1, 1);
    Edges.due("pin(0, 0, 0)", x.pin(0, 0, 0), 1);
    Edges.due("pin(0, 7, 5)", x.pin(0, 7, 5), 2);
    Edges.due("pin(1, 95, 5)", x.pin(1, 95, 5), 1);
    Edges.due("pin(1, 0, 0)", x.pin(1, 0, 0), 2);
  }

  @Says("Throws `IllegalArgumentException` if place is not 0 to n - 1")
  static void aPinBelowThePlace0IsRefused() {
    Edges.refused(Edges.ARGUMENT, () -> Parlours.withPins(3), x -> x.pin(0, -1, 0),
        x -> x.pin(0, MIN, 5));
  }

  @Says("Throws `IllegalArgumentException` if place is not 0 to n - 1")
  static void aPinAtThePlaceNIsRefused() {
    Edges.refused(Edges.ARGUMENT, () -> Parlours.withPins(3), x -> x.pin(0, 8, 0),
        x -> x.pin(0, 95, 0), x -> x.pin(0, 96, 0), x -> x.pin(0, MAX, 5));
  }

  @Says("or lever is not 0 to 5")
  static void aPinOfALeverBelow0IsRefused() {
    Edges.refused(Edges.ARGUMENT, () -> Parlours.withPins(3), x -> x.pin(0, 0, -1),
        x -> x.pin(0, 7, MIN), x -> x.pin(0, 7, -32));
  }

  @Says("or lever is not 0 to 5")
  static void aPinOfALeverAbove5IsRefused() {
    Edges.refused(Edges.ARGUMENT, () -> Parlours.withPins(3), x -> x.pin(0, 0, 6),
        x -> x.pin(0, 7, MAX), x -> x.pin(0, 7, 32));
  }

  @Says("Throws `IndexOutOfBoundsException` if there is no such bird")
  static void aPinOfNoSuchBirdIsRefused() {
    Edges.refused(Edges.INDEX, Parlours::empty, x -> x.pin(0, 0, 0));
    Edges.refused(Edges.INDEX, () -> Parlours.withBirds(3), x -> x.pin(3, 0, 0),
        x -> x.pin(-1, 0, 0), x -> x.pin(MIN, 0, 0), x -> x.pin(MAX, 0, 0));
    Edges.refused(Edges.INDEX, Parlours::full, x -> x.pin(8, 0, 0), x -> x.pin(-1, 0, 0));
  }

  @Says("If several exceptions apply, the one that is named first is thrown.")
  static void aWrongPinOfNoSuchBirdIsAWrongIndex() {
    Edges.refused(Edges.INDEX, Parlours::full, x -> x.pin(8, -1, 0), x -> x.pin(-1, 0, 6),
        x -> x.pin(8, 96, -1));
  }

  @Says("If several exceptions apply, the one that is named first is thrown.")
  static void aWrong25thPinIsAWrongArgument() {
    Edges.refused(Edges.ARGUMENT, () -> Parlours.withPins(24), x -> x.pin(0, 8, 0),
        x -> x.pin(0, -1, 0), x -> x.pin(0, 7, 6), x -> x.pin(0, 7, -1));
  }

  @Says("A method that throws an exception changes nothing.")
  static void aRefusedPinChangesNothing() {
    Edges.changeNothing(Parlours::lively, x -> x.pin(3, 1, 1), x -> x.pin(-1, 1, 1),
        x -> x.pin(0, 12, 1), x -> x.pin(0, -1, 1), x -> x.pin(0, 5, 6), x -> x.pin(0, 5, -1));
    Edges.changeNothing(Parlours::full, x -> x.pin(0, 11, 0), x -> x.pin(0, 12, 0));
  }

  // ---- promise 10

  @Says("A lever has a note, 0 to 87 (60 and 2 times its number, at first).")
  static void theNotesAtFirstAre60To70() {
    BirdParlour x = Parlours.withBirds(1);
    for (int lever = 0; lever < 6; lever++) {
      Edges.due("lever " + lever, x.tune(0, lever, 0), 60 + 2 * lever);
    }
  }

  @Says("A lever has a note, 0 to 87")
  static void notes0And87AreFine() {
    BirdParlour x = Parlours.withBirds(1);
    x.tune(0, 0, 0);
    x.tune(0, 5, 87);
    Edges.due("lever 0", x.tune(0, 0, 1), 0);
    Edges.due("lever 5", x.tune(0, 5, 1), 87);
  }

  @Says("Throws `IllegalArgumentException` if note is not 0 to 87")
  static void aNoteBelow0IsRefused() {
    Edges.refused(Edges.ARGUMENT, () -> Parlours.withBirds(1), x -> x.tune(0, 0, -1),
        x -> x.tune(0, 5, MIN));
  }

  @Says("Throws `IllegalArgumentException` if note is not 0 to 87")
  static void aNoteAbove87IsRefused() {
    Edges.refused(Edges.ARGUMENT, () -> Parlours.withBirds(1), x -> x.tune(0, 0, 88),
        x -> x.tune(0, 5, MAX));
  }

  @Says("Returns the note before.")
  static void tuningAnswersTheNoteBeforeAlsoWhenItIsTheSame() {
    BirdParlour x = Parlours.withBirds(2);
    Edges.due("tune to the same", x.tune(0, 3, 66), 66);
    Edges.due("tune", x.tune(0, 3, 5), 66);
    Edges.due("another bird's", x.tune(1, 3, 6), 66);
    Edges.due("tune back", x.tune(0, 3, 66), 5);
  }

  @Says("Throws `IndexOutOfBoundsException` if there is no such bird, or lever is not 0 to 5")
  static void tuningNoSuchBirdIsRefused() {
    Edges.refused(Edges.INDEX, Parlours::empty, x -> x.tune(0, 0, 0));
    Edges.refused(Edges.INDEX, () -> Parlours.withBirds(3), x -> x.tune(3, 0, 0),
        x -> x.tune(-1, 0, 0), x -> x.tune(MIN, 0, 0), x -> x.tune(MAX, 0, 0));
    Edges.refused(Edges.INDEX, Parlours::full, x -> x.tune(8, 0, 0), x -> x.tune(-1, 5, 0));
  }

  @Says("Throws `IndexOutOfBoundsException` if there is no such bird, or lever is not 0 to 5")
  static void tuningALeverBelow0IsRefused() {
    Edges.refused(Edges.INDEX, Parlours::full, x -> x.tune(0, -1, 0), x -> x.tune(7, MIN, 0));
  }

  @Says("Throws `IndexOutOfBoundsException` if there is no such bird, or lever is not 0 to 5")
  static void tuningALeverAbove5IsRefused() {
    Edges.refused(Edges.INDEX, Parlours::full, x -> x.tune(0, 6, 0), x -> x.tune(7, MAX, 0));
  }

  @Says("If several exceptions apply, the one that is named first is thrown.")
  static void tuningNoSuchLeverToAWrongNoteIsAWrongIndex() {
    Edges.refused(Edges.INDEX, Parlours::full, x -> x.tune(0, 6, 88), x -> x.tune(0, -1, -1),
        x -> x.tune(8, 0, 88), x -> x.tune(-1, 0, -1));
  }

  @Says("A method that throws an exception changes nothing.")
  static void aRefusedTuneChangesNothing() {
    Edges.changeNothing(Parlours::lively, x -> x.tune(0, 0, 88), x -> x.tune(0, 5, -1),
        x -> x.tune(0, 6, 3), x -> x.tune(0, -1, 3), x -> x.tune(3, 0, 3), x -> x.tune(-1, 0, 3));
  }

  // ---- promise 11

  @Says("A bird has three: 0 the beak, 1 the wings, 2 the tail.")
  static void eachOfTheThreeCamsHasPointsOfItsOwn() {
    BirdParlour x = Parlours.withBirds(2);
    for (int cam = 0; cam < 3; cam++) {
      Edges.due("laid", x.point(0, cam, 3, 10 + cam), 1);
    }
    for (int cam = 0; cam < 3; cam++) {
      Edges.due("lift", x.lift(0, cam, 3), 10 + cam);
      Edges.due("the other bird's lift", x.lift(1, cam, 3), 0);
    }
  }

  @Says("A cam has at most 8 points, at different places of the barrel")
  static void anEighthPointIsFine() {
    BirdParlour x = Parlours.withPoints(7);
    Edges.due("the eighth", x.point(0, 1, 11, 3), 8);
    Edges.due("its lift", x.lift(0, 1, 11), 3);
  }

  @Says("or it is not -1, there is none, and the cam has 8")
  static void aNinthPointIsRefused() {
    Edges.refused(Edges.STATE, () -> Parlours.withPoints(8), x -> x.point(0, 1, 8, 0),
        x -> x.point(0, 1, 11, 100));
  }

  @Says("Lays a point of a cam, in the place of one that is there.")
  static void oneOf8PointsCanBeLaidAnew() {
    BirdParlour x = Parlours.withPoints(8);
    Edges.due("in the place of one", x.point(0, 1, 7, 99), 8);
    Edges.due("its lift", x.lift(0, 1, 7), 99);
    Edges.due("of the same lift", x.point(0, 1, 7, 99), 8);
  }

  @Says("Lays a point of a cam, in the place of one that is there.")
  static void aPointInThePlaceOfAnotherIsNoneMore() {
    BirdParlour x = Parlours.withPoints(1);
    Edges.due("in the place of one", x.point(0, 1, 0, 40), 1);
    Edges.due("its lift", x.lift(0, 1, 0), 40);
    Edges.due("taken away", x.point(0, 1, 0, -1), 0);
  }

  @Says("-1 to take the point away")
  static void oneOf8PointsCanBeTakenAway() {
    BirdParlour x = Parlours.withPoints(8);
    Edges.due("taken away", x.point(0, 1, 3, -1), 7);
    Edges.due("an eighth again", x.point(0, 1, 11, 5), 8);
  }

  @Says("-1 to take the point away")
  static void theOnlyPointCanBeTakenAway() {
    BirdParlour x = Parlours.withPoints(0);
    x.point(0, 1, 4, 60);
    Edges.due("taken away", x.point(0, 1, 4, -1), 0);
    for (int place = 0; place < 12; place++) {
      Edges.due("lift", x.lift(0, 1, place), 0);
    }
  }

  @Says("Throws `IllegalStateException` if lift is -1, and there is no point")
  static void takingNoPointAwayIsRefused() {
    Edges.refused(Edges.STATE, () -> Parlours.withPoints(0), x -> x.point(0, 1, 0, -1));
    Edges.refused(Edges.STATE, () -> Parlours.withPoints(1), x -> x.point(0, 1, 1, -1),
        x -> x.point(0, 0, 0, -1), x -> x.point(0, 1, 11, -1));
    Edges.refused(Edges.STATE, () -> Parlours.withPoints(8), x -> x.point(0, 1, 8, -1));
  }

  @Says("each with a lift, 0 to 100")
  static void lifts0And100AreFine() {
    BirdParlour x = Parlours.withPoints(0);
    Edges.due("laid", x.point(0, 0, 2, 0), 1);
    Edges.due("laid", x.point(0, 0, 3, 100), 2);
    Edges.due("lift", x.lift(0, 0, 2), 0);
    Edges.due("lift", x.lift(0, 0, 3), 100);
  }

  @Says("or lift is not -1 to 100")
  static void aLiftBelowLess1IsRefused() {
    Edges.refused(Edges.ARGUMENT, () -> Parlours.withPoints(2), x -> x.point(0, 1, 0, -2),
        x -> x.point(0, 1, 5, MIN), x -> x.point(0, 1, 5, -2));
  }

  @Says("or lift is not -1 to 100")
  static void aLiftAbove100IsRefused() {
    Edges.refused(Edges.ARGUMENT, () -> Parlours.withPoints(2), x -> x.point(0, 1, 0, 101),
        x -> x.point(0, 1, 5, MAX), x -> x.point(0, 1, 5, 101));
  }

  @Says("Throws `IllegalArgumentException` if place is not 0 to n - 1")
  static void theFirstAndTheLastPlaceOfACamAreFine() {
    BirdParlour x = Parlours.withPoints(0);
    x.addBird(0, 0, 96, 1, 1);
    Edges.due("place 0", x.point(0, 2, 0, 5), 1);
    Edges.due("place n - 1", x.point(0, 2, 11, 6), 2);
    Edges.due("place 95 of 96", x.point(1, 2, 95, 7), 1);
    Edges.due("lift", x.lift(1, 2, 95), 7);
  }

  @Says("Throws `IllegalArgumentException` if place is not 0 to n - 1")
  static void aPointBelowThePlace0IsRefused() {
    Edges.refused(Edges.ARGUMENT, () -> Parlours.withPoints(2), x -> x.point(0, 1, -1, 0),
        x -> x.point(0, 1, MIN, 100), x -> x.point(0, 1, -1, -1));
  }

  @Says("Throws `IllegalArgumentException` if place is not 0 to n - 1")
  static void aPointAtThePlaceNIsRefused() {
    Edges.refused(Edges.ARGUMENT, () -> Parlours.withPoints(2), x -> x.point(0, 1, 12, 0),
        x -> x.point(0, 1, 95, 0), x -> x.point(0, 1, 96, 0), x -> x.point(0, 1, MAX, 0),
        x -> x.point(0, 1, 12, -1));
  }

  @Says("Throws `IndexOutOfBoundsException` if there is no such bird, or cam is not 0 to 2")
  static void aPointOfNoSuchBirdIsRefused() {
    Edges.refused(Edges.INDEX, Parlours::empty, x -> x.point(0, 0, 0, 0));
    Edges.refused(Edges.INDEX, () -> Parlours.withBirds(3), x -> x.point(3, 0, 0, 0),
        x -> x.point(-1, 0, 0, 0), x -> x.point(MIN, 0, 0, 0), x -> x.point(MAX, 0, 0, 0));
    Edges.refused(Edges.INDEX, Parlours::full, x -> x.point(8, 0, 0, 0));
  }

  @Says("Throws `IndexOutOfBoundsException` if there is no such bird, or cam is not 0 to 2")
  static void aPointOfNoSuchCamIsRefused() {
    Edges.refused(Edges.INDEX, Parlours::full, x -> x.point(0, -1, 0, 0),
        x -> x.point(0, 3, 0, 0), x -> x.point(7, MIN, 0, 0), x -> x.point(7, MAX, 0, 0));
  }

  @Says("If several exceptions apply, the one that is named first is thrown.")
  static void aWrongPointOfNoSuchCamIsAWrongIndex() {
    Edges.refused(Edges.INDEX, Parlours::full, x -> x.point(0, 3, -1, 0),
        x -> x.point(0, -1, 0, 101), x -> x.point(8, 0, 96, 0), x -> x.point(-1, 0, 0, -2),
        x -> x.point(0, 3, 0, -1), x -> x.point(8, 1, 0, -1));
  }

  @Says("If several exceptions apply, the one that is named first is thrown.")
  static void aWrongNinthPointIsAWrongArgument() {
    Edges.refused(Edges.ARGUMENT, () -> Parlours.withPoints(8), x -> x.point(0, 1, 12, 0),
        x -> x.point(0, 1, -1, 0), x -> x.point(0, 1, 8, 101), x -> x.point(0, 1, 8, -2),
        x -> x.point(0, 1, 12, -1));
  }

  @Says("A method that throws an exception changes nothing.")
  static void aRefusedPointChangesNothing() {
    Edges.changeNothing(Parlours::lively, x -> x.point(3, 1, 3, 7), x -> x.point(0, 3, 3, 7),
        x -> x.point(0, -1, 3, 7), x -> x.point(0, 1, 12, 7), x -> x.point(0, 1, 3, -2),
        x -> x.point(0, 1, 3, 101), x -> x.point(0, 1, 9, -1), x -> x.point(0, 0, 9, -1));
    Edges.changeNothing(Parlours::full, x -> x.point(0, 1, 11, 7), x -> x.point(0, 1, 11, -1));
  }

  // ---- promise 12

  @Says("Throws `IndexOutOfBoundsException` if there is no such bird, or what is not 0 to 9")
  static void askingNoSuchBirdIsRefused() {
    Edges.refused(Edges.INDEX, Parlours::empty, x -> x.bird(0, 0));
    Edges.refused(Edges.INDEX, () -> Parlours.withBirds(3), x -> x.bird(3, 0),
        x -> x.bird(-1, 9), x -> x.bird(MIN, 0), x -> x.bird(MAX, 9));
    Edges.refused(Edges.INDEX, Parlours::full, x -> x.bird(8, 0), x -> x.bird(-1, 0));
  }

  @Says("Throws `IndexOutOfBoundsException` if there is no such bird, or what is not 0 to 9")
  static void askingABirdBelow0IsRefused() {
    Edges.refused(Edges.INDEX, Parlours::full, x -> x.bird(0, -1), x -> x.bird(7, MIN));
  }

  @Says("Throws `IndexOutOfBoundsException` if there is no such bird, or what is not 0 to 9")
  static void askingABirdAbove9IsRefused() {
    Edges.refused(Edges.INDEX, Parlours::full, x -> x.bird(0, 10), x -> x.bird(7, MAX));
  }

  @Says("A method that throws an exception changes nothing.")
  static void aRefusedQuestionAboutABirdChangesNothing() {
    Edges.changeNothing(Parlours::lively, x -> x.bird(3, 1), x -> x.bird(-1, 0),
        x -> x.bird(0, -1), x -> x.bird(0, 10));
  }

  @Says("0 its spring, 1 its weight, 2 n, 3 p, 4 q, 5 its place, 6 1 if it is engaged, else 0, 7 "
      + "its pins, 8 the places that its barrel has gone since it was engaged, 9 how many notes "
      + "it has sounded")
  static void askingABird0To9IsFine() {
    BirdParlour x = Parlours.withSprings(3);
    x.addSpring(50);
    x.wind(3, 200000);
    x.addBird(3, 4, 15, 8, 3);
    x.pin(0, 2, 0);
    x.pin(0, 2, 1);
    x.run(2);
    // 16 places a tick: 32 in all, which is the place 2, met twice by then, and once in the first
    int[] due = {3, 4, 15, 8, 3, 2, 1, 2, 32, 4};
    for (int what = 0; what <= 9; what++) {
      Edges.due("bird(0, " + what + ")", x.bird(0, what), due[what]);
    }
  }

  @Says("9 how many notes it has sounded")
  static void aBirdAlsoCountsNotesThatAreNotKept() {
    BirdParlour x = Parlours.loud();
    x.run(12);
    Edges.due("notes of the first", x.bird(0, 9), 240);
    Edges.due("notes of the second", x.bird(1, 9), 60);
    x.emptySongs();
    x.engage(0, false);
    Edges.due("notes of the first, emptied, disengaged", x.bird(0, 9), 240);
  }

  // ---- promise 13

  private static void dueLifts(BirdParlour x, int... due) {
    for (int place = 0; place < due.length; place++) {
      Edges.due("lift at " + place, x.lift(0, 0, place), due[place]);
    }
  }

  private static BirdParlour cam(int places, int... points) {
    BirdParlour x = Parlours.withSprings(1);
    x.addBird(0, 0, places, 1, 1);
    for (int k = 0; k + 1 < points.length; k += 2) {
      x.point(0, 0, points[k], points[k + 1]);
    }
    return x;
  }

  @Says("The lift at a place x: without points 0")
  static void withoutPointsTheLiftIs0() {
    dueLifts(cam(8), 0, 0, 0, 0, 0, 0, 0, 0);
  }

  @Says("with one that of this")
  static void withOnePointTheLiftIsItsOwn() {
    dueLifts(cam(8, 5, 37), 37, 37, 37, 37, 37, 37, 37, 37);
    dueLifts(cam(8, 0, 100), 100, 100, 100, 100, 100, 100, 100, 100);
    dueLifts(cam(8, 7, 0), 0, 0, 0, 0, 0, 0, 0, 0);
  }

  @Says("otherwise between the last point at or ahead of x")
  static void atAPointTheLiftIsThePointsOwn() {
    BirdParlour x = cam(12, 0, 9, 3, 100, 4, 0, 11, 51);
    Edges.due("at the first", x.lift(0, 0, 0), 9);
    Edges.due("at the second", x.lift(0, 0, 3), 100);
    Edges.due("at the one behind it", x.lift(0, 0, 4), 0);
    Edges.due("at the last", x.lift(0, 0, 11), 51);
  }

  @Says("u and (v - u) * (x - a) / (b - a)")
  static void betweenTwoPointsTheLiftGoesEvenly() {
    dueLifts(cam(10, 0, 0, 9, 90), 0, 10, 20, 30, 40, 50, 60, 70, 80, 90);
  }

  @Says("behind the last point of all comes the first one, at its place and n")
  static void behindTheLastPointComesTheFirst() {
    // from 5 (80) to 2 + 8 (30): 10 less a place
    BirdParlour x = cam(8, 2, 30, 5, 80);
    Edges.due("at 6", x.lift(0, 0, 6), 70);
    Edges.due("at 7", x.lift(0, 0, 7), 60);
  }

  @Says("ahead of the first point comes the last one, at its place less n")
  static void aheadOfTheFirstPointComesTheLast() {
    // from 5 - 8 (80) to 2 (30): 10 less a place
    BirdParlour x = cam(8, 2, 30, 5, 80);
    Edges.due("at 0", x.lift(0, 0, 0), 50);
    Edges.due("at 1", x.lift(0, 0, 1), 40);
  }

  @Says("ahead of the first point comes the last one, at its place less n")
  static void pointsAtTheLastAndTheFirstPlaceHaveNoneBetween() {
    dueLifts(cam(8, 0, 10, 7, 80), 10, 20, 30, 40, 50, 60, 70, 80);
    dueLifts(cam(8, 1, 10, 0, 80), 80, 10, 20, 30, 40, 50, 60, 70);
    dueLifts(cam(8, 7, 10, 6, 80), 20, 30, 40, 50, 60, 70, 80, 10);
  }

  @Says("the quotient cut downwards")
  static void aRiseIsCutDownwards() {
    dueLifts(cam(8, 0, 0, 4, 3), 0, 0, 1, 2, 3, 2, 1, 0);
  }

  @Says("the quotient cut downwards")
  static void aFallIsCutDownwards() {
    // -1 / 3, -2 / 3, and -1 / 5 to -4 / 5, each cut to -1
    dueLifts(cam(8, 0, 1, 3, 0, 4, 0), 1, 0, 0, 0, 0, 0, 0, 0);
    dueLifts(cam(8, 0, 100, 3, 99), 100, 99, 99, 99, 99, 99, 99, 99);
    dueLifts(cam(8, 2, 7, 4, 0), 4, 5, 7, 3, 0, 1, 2, 3);
  }

  @Says("between the last point at or ahead of x (its place a, lift u) and the next one (b, v)")
  static void eightPointsOf8PlacesAreAllThatCounts() {
    dueLifts(cam(8, 7, 0, 6, 100, 5, 1, 4, 99, 3, 2, 2, 98, 1, 3, 0, 97),
        97, 3, 98, 2, 99, 1, 100, 0);
  }

  @Says("between the last point at or ahead of x (its place a, lift u) and the next one (b, v)")
  static void behindAPointTakenAwayTheOthersCount() {
    BirdParlour x = cam(8, 0, 0, 2, 100, 4, 40);
    x.point(0, 0, 2, -1);
    dueLifts(x, 0, 10, 20, 30, 40, 30, 20, 10);
    x.point(0, 0, 0, -1);
    dueLifts(x, 40, 40, 40, 40, 40, 40, 40, 40);
  }

  @Says("-1 for the one where it is")
  static void less1IsThePlaceWhereItIs() {
    BirdParlour x = Parlours.fast(15, 7, 3);
    x.point(0, 2, 0, 10);
    x.point(0, 2, 14, 24);
    Edges.due("at first", x.lift(0, 2, -1), 10);
    x.engage(0, true);
    x.run(1);
    Edges.due("place", x.bird(0, 5), 14);
    Edges.due("behind a tick", x.lift(0, 2, -1), 24);
    x.engage(0, false);
    x.run(1);
    Edges.due("disengaged", x.lift(0, 2, -1), 24);
    x.engage(0, true);
    Edges.due("engaged anew", x.lift(0, 2, -1), 10);
  }

  @Says("Throws `IllegalArgumentException` if place is not -1 to n - 1")
  static void aLiftBelowThePlaceLess1IsRefused() {
    Edges.refused(Edges.ARGUMENT, () -> Parlours.withPoints(2), x -> x.lift(0, 1, -2),
        x -> x.lift(0, 1, MIN));
  }

  @Says("Throws `IllegalArgumentException` if place is not -1 to n - 1")
  static void aLiftAtThePlaceNIsRefused() {
    Edges.due("the last place", Parlours.withPoints(2).lift(0, 1, 11), 0);
    Edges.refused(Edges.ARGUMENT, () -> Parlours.withPoints(2), x -> x.lift(0, 1, 12),
        x -> x.lift(0, 1, 95), x -> x.lift(0, 1, 96), x -> x.lift(0, 1, MAX));
  }

  @Says("Throws `IndexOutOfBoundsException` if there is no such bird, or cam is not 0 to 2")
  static void aLiftOfNoSuchBirdIsRefused() {
    Edges.refused(Edges.INDEX, Parlours::empty, x -> x.lift(0, 0, 0), x -> x.lift(0, 0, -1));
    Edges.refused(Edges.INDEX, () -> Parlours.withBirds(3), x -> x.lift(3, 0, 0),
        x -> x.lift(-1, 0, -1), x -> x.lift(MIN, 0, 0), x -> x.lift(MAX, 0, 0));
    Edges.refused(Edges.INDEX, Parlours::full, x -> x.lift(8, 0, 0));
  }

  @Says("Throws `IndexOutOfBoundsException` if there is no such bird, or cam is not 0 to 2")
  static void aLiftOfNoSuchCamIsRefused() {
    Edges.refused(Edges.INDEX, Parlours::full, x -> x.lift(0, -1, 0), x -> x.lift(0, 3, -1),
        x -> x.lift(7, MIN, 0), x -> x.lift(7, MAX, 0));
  }

  @Says("If several exceptions apply, the one that is named first is thrown.")
  static void aLiftAtAWrongPlaceOfNoSuchCamIsAWrongIndex() {
    Edges.refused(Edges.INDEX, Parlours::full, x -> x.lift(0, 3, -2), x -> x.lift(0, -1, 96),
        x -> x.lift(8, 0, -2), x -> x.lift(-1, 0, MAX));
  }

  @Says("A method that throws an exception changes nothing.")
  static void aRefusedQuestionAboutALiftChangesNothing() {
    Edges.changeNothing(Parlours::lively, x -> x.lift(3, 0, 0), x -> x.lift(-1, 0, 0),
        x -> x.lift(0, 3, 0), x -> x.lift(0, -1, 0), x -> x.lift(0, 1, -2), x -> x.lift(0, 1, 12));
  }
}
