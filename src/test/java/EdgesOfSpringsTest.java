/** The edges that the terms of springs and couplings and the promises 1 to 6 name. */
public final class EdgesOfSpringsTest {
  private static final int MIN = Integer.MIN_VALUE;
  private static final int MAX = Integer.MAX_VALUE;

  public static void main(String[] args) throws IllegalAccessException {
    Edges.runAll(EdgesOfSpringsTest.class);
  }

  // ---- promise 1

  @Says("Creates an empty parlour at the tick 0.")
  static void aNewParlourIsAtTheTick0() {
    Edges.due("count(0)", new BirdParlour().count(0), 0);
  }

  @Says("Creates an empty parlour")
  static void aNewParlourHasNoSprings() {
    Edges.due("count(1)", new BirdParlour().count(1), 0);
    Edges.refused(Edges.INDEX, Parlours::empty, x -> x.spring(0, 0));
  }

  @Says("Creates an empty parlour")
  static void aNewParlourHasNoBirds() {
    Edges.due("count(2)", new BirdParlour().count(2), 0);
    Edges.refused(Edges.INDEX, Parlours::empty, x -> x.bird(0, 0));
  }

  @Says("Creates an empty parlour")
  static void aNewParlourHasNoPairsThatAreCoupled() {
    Edges.due("count(3)", new BirdParlour().count(3), 0);
  }

  @Says("Creates an empty parlour")
  static void aNewParlourHasNoSongs() {
    Edges.due("count(4)", new BirdParlour().count(4), 0);
    Edges.refused(Edges.INDEX, Parlours::empty, x -> x.sung(0, 0));
    Edges.due("emptySongs", new BirdParlour().emptySongs(), 0);
  }

  @Says("Creates an empty parlour")
  static void aNewParlourHoldsNothing() {
    Edges.due("count(5)", new BirdParlour().count(5), 0);
  }

  @Says("Creates an empty parlour")
  static void aNewParlourHasNothingOfAnother() {
    Parlours.full();
    Edges.dueAlike("a new parlour", new BirdParlour(), Parlours.empty());
  }

  // ---- the terms: springs

  @Says("numbered from 0 in the order of their creation")
  static void springsAreNumberedFrom0InTheirOrder() {
    BirdParlour x = new BirdParlour();
    for (int k = 0; k < 4; k++) {
      Edges.due("addSpring", x.addSpring(20 + k), k);
    }
    for (int k = 0; k < 4; k++) {
      Edges.due("the strength of " + k, x.spring(k, 0), 20 + k);
    }
  }

  @Says("holds an amount of turns in thousandths, 0 to 200000 (0, at first)")
  static void aSpringHolds0AtFirst() {
    Edges.due("holds", Parlours.withSprings(1).spring(0, 1), 0);
  }

  @Says("holds an amount of turns in thousandths, 0 to 200000")
  static void aSpringNeverHoldsLessThan0() {
    BirdParlour x = Parlours.withSprings(1);
    x.addBird(0, 0, 96, 12, 1);
    for (int place = 0; place < 24; place++) {
      x.pin(0, place, 3);
    }
    x.wind(0, 105);
    for (int k = 0; k < 40; k++) {
      x.run(1);
      Edges.due("holds less than 0", x.spring(0, 1) < 0, false);
    }
    Edges.due("holds", x.spring(0, 1), 0);
  }

  @Says("holds an amount of turns in thousandths, 0 to 200000")
  static void aSpringNeverHoldsMoreThan200000() {
    BirdParlour x = Parlours.withSprings(3);
    x.couple(0, 1, true);
    x.couple(1, 2, true);
    for (int k = 0; k < 60; k++) {
      x.wind(0, 200000);
      x.wind(2, 200000);
      x.run(1);
      for (int spring = 0; spring < 3; spring++) {
        Edges.due("holds more", x.spring(spring, 1) > 200000, false);
      }
    }
  }

  @Says("Its shaft has gone so far in all, in thousandths of a turn, from 0 on.")
  static void aShaftCountsFrom0On() {
    BirdParlour x = Parlours.withSprings(1);
    Edges.due("shaft", x.spring(0, 2), 0);
    x.wind(0, 3);
    Edges.due("shaft of a wound spring", x.spring(0, 2), 0);
    x.run(2);
    Edges.due("shaft", x.spring(0, 2), 2);
  }

  @Says("A spring is braked or not (not, at first).")
  static void aSpringIsNotBrakedAtFirst() {
    BirdParlour x = Parlours.withSprings(4);
    for (int k = 0; k < 4; k++) {
      Edges.due("braked", x.spring(k, 4), 0);
    }
  }

  // ---- the terms: couplings

  @Says("Two springs are coupled or not (not, at first).")
  static void twoSpringsAreNotCoupledAtFirst() {
    BirdParlour x = Parlours.withSprings(4);
    Edges.due("pairs", x.count(3), 0);
    x.wind(0, 200000);
    x.run(1);
    Edges.due("the others hold", x.spring(1, 1) + x.spring(2, 1) + x.spring(3, 1), 0);
  }

  private static BirdParlour twoBraked(int first, int second) {
    BirdParlour x = Parlours.withSprings(2);
    x.couple(0, 1, true);
    for (int k = 0; k < 2; k++) {
      x.brake(k, true);
      int turns = k == 0 ? first : second;
      if (turns > 0) {
        x.wind(k, turns);
      }
    }
    return x;
  }

  private static void dueShared(int first, int second, int due) {
    BirdParlour x = twoBraked(first, second);
    x.run(1);
    Edges.due(first + " and " + second + ", the first", x.spring(0, 1), first - due);
    Edges.due(first + " and " + second + ", the second", x.spring(1, 1), second + due);
  }

  @Says("d = (what a holds less what b holds) / 10, cut towards 0")
  static void aDifferenceBelow10MovesNothing() {
    dueShared(9, 0, 0);
    dueShared(1000, 991, 0);
    dueShared(7, 7, 0);
  }

  @Says("d = (what a holds less what b holds) / 10, cut towards 0")
  static void aDifferenceOf10MovesOne() {
    dueShared(10, 0, 1);
    dueShared(19, 0, 1);
    dueShared(20, 0, 2);
  }

  @Says("d = (what a holds less what b holds) / 10, cut towards 0")
  static void aDifferenceBelow0IsCutTowards0() {
    dueShared(0, 9, 0);
    dueShared(0, 10, -1);
    dueShared(0, 19, -1);
    dueShared(991, 1000, 0);
  }

  @Says("a holds d less then, and b d more")
  static void aFullSpringAndAnEmptyOneShare() {
    dueShared(200000, 0, 20000);
    dueShared(0, 200000, -20000);
  }

  @Says("a holds d less then, and b d more")
  static void twoEmptySpringsShareNothing() {
    dueShared(0, 0, 0);
  }

  @Says("pair by pair of coupled springs a < b in ascending order of a, of the same a of b")
  static void pairsShareInAscendingOrder() {
    BirdParlour x = Parlours.withSprings(4);
    int[] held = {100000, 5000, 300, 70000};
    for (int k = 0; k < 4; k++) {
      x.brake(k, true);
      x.wind(k, held[k]);
    }
    for (int b = 3; b > 0; b--) {
      for (int a = b - 1; a >= 0; a--) {
        x.couple(b, a, true);
      }
    }
    int[][] pairs = {{0, 1}, {0, 2}, {0, 3}, {1, 2}, {1, 3}, {2, 3}};
    for (int tick = 1; tick <= 3; tick++) {
      for (int[] pair : pairs) {
        int d = (held[pair[0]] - held[pair[1]]) / 10;
        held[pair[0]] -= d;
        held[pair[1]] += d;
      }
      x.run(1);
      for (int k = 0; k < 4; k++) {
        Edges.due("tick " + tick + ", spring " + k, x.spring(k, 1), held[k]);
      }
    }
  }

  @Says("At the beginning of each tick")
  static void anEmptySpringThatIsFedGoesInTheSameTick() {
    BirdParlour x = Parlours.withSprings(2);
    x.wind(1, 100);
    x.brake(1, true);
    x.couple(0, 1, true);
    x.run(1);
    Edges.due("the fed one's speed", x.spring(0, 3), 1);
    Edges.due("the fed one holds", x.spring(0, 1), 9);
  }

  @Says("At the beginning of each tick")
  static void whatASpringSpendsInATickIsSharedInTheNext() {
    BirdParlour x = Parlours.withSprings(2);
    x.wind(0, 10);
    x.wind(1, 10);
    x.brake(1, true);
    x.couple(0, 1, true);
    x.run(9);
    // each tick takes 1 of the first; it is fed when the difference is 10, not before
    Edges.due("the first holds", x.spring(0, 1), 1);
    Edges.due("the second holds", x.spring(1, 1), 10);
    x.run(1);
    Edges.due("the first holds at the difference 10", x.spring(0, 1), 0);
    Edges.due("the second is not yet asked", x.spring(1, 1), 10);
    x.run(1);
    Edges.due("the first is fed by 1, and goes it", x.spring(0, 1), 0);
    Edges.due("the second holds", x.spring(1, 1), 9);
  }

  @Says("Couples two springs, or uncouples them.")
  static void uncoupledSpringsShareNoMore() {
    BirdParlour x = twoBraked(1000, 0);
    x.couple(1, 0, false);
    x.run(5);
    Edges.due("the first holds", x.spring(0, 1), 1000);
    Edges.due("the second holds", x.spring(1, 1), 0);
  }

  // ---- promise 2

  @Says("A spring has a strength, 1 to 50")
  static void strengths1And50AreFine() {
    BirdParlour x = new BirdParlour();
    Edges.due("addSpring(1)", x.addSpring(1), 0);
    Edges.due("addSpring(50)", x.addSpring(50), 1);
    Edges.due("the strength of 0", x.spring(0, 0), 1);
    Edges.due("the strength of 1", x.spring(1, 0), 50);
  }

  @Says("Throws `IllegalArgumentException` if strength is not 1 to 50")
  static void aStrengthBelow1IsRefused() {
    Edges.refused(Edges.ARGUMENT, Parlours::empty, x -> x.addSpring(0), x -> x.addSpring(-1),
        x -> x.addSpring(-50), x -> x.addSpring(MIN));
  }

  @Says("Throws `IllegalArgumentException` if strength is not 1 to 50")
  static void aStrengthAbove50IsRefused() {
    Edges.refused(Edges.ARGUMENT, Parlours::empty, x -> x.addSpring(51), x -> x.addSpring(100),
        x -> x.addSpring(MAX));
  }

  @Says("There are at most 4")
  static void aFourthSpringIsFine() {
    BirdParlour x = Parlours.withSprings(3);
    Edges.due("the fourth", x.addSpring(1), 3);
    Edges.due("springs", x.count(1), 4);
  }

  @Says("Throws `IllegalStateException` if there are 4")
  static void aFifthSpringIsRefused() {
    Edges.refused(Edges.STATE, () -> Parlours.withSprings(4), x -> x.addSpring(1),
        x -> x.addSpring(50));
  }

  @Says("If several exceptions apply, the one that is named first is thrown.")
  static void aFifthSpringOfAWrongStrengthIsAWrongArgument() {
    Edges.refused(Edges.ARGUMENT, () -> Parlours.withSprings(4), x -> x.addSpring(0),
        x -> x.addSpring(51));
  }

  @Says("A method that throws an exception changes nothing.")
  static void aRefusedAddSpringChangesNothing() {
    Edges.changeNothing(Parlours::lively, x -> x.addSpring(0), x -> x.addSpring(51));
    Edges.changeNothing(Parlours::full, x -> x.addSpring(1), x -> x.addSpring(0));
  }

  @Says("numbered from 0 in the order of their creation")
  static void aRefusedSpringTakesNoNumber() {
    BirdParlour x = Parlours.withSprings(1);
    try {
      x.addSpring(51);
    } catch (IllegalArgumentException e) {
      Edges.due("the next number", x.addSpring(3), 1);
    }
    Edges.due("its strength", x.spring(1, 0), 3);
  }

  // ---- promise 3

  @Says("Returns what it holds then, at most 200000.")
  static void windingToTheBrimHolds200000() {
    BirdParlour x = Parlours.withSprings(1);
    Edges.due("wind to 199999", x.wind(0, 199999), 199999);
    Edges.due("wind to the brim", x.wind(0, 1), 200000);
    Edges.due("holds", x.spring(0, 1), 200000);
  }

  @Says("Returns what it holds then, at most 200000.")
  static void windingOverTheBrimHolds200000() {
    BirdParlour x = Parlours.withSprings(1);
    x.wind(0, 199999);
    Edges.due("wind over the brim", x.wind(0, 2), 200000);
    Edges.due("holds", x.spring(0, 1), 200000);
  }

  @Says("Returns what it holds then, at most 200000.")
  static void windingAFullSpringHolds200000() {
    BirdParlour x = Parlours.withSprings(1);
    x.wind(0, 200000);
    Edges.due("wind by 1", x.wind(0, 1), 200000);
    Edges.due("wind by 200000", x.wind(0, 200000), 200000);
    Edges.due("holds", x.spring(0, 1), 200000);
  }

  @Says("Throws `IllegalArgumentException` if turns is not 1 to 200000")
  static void turns1And200000AreFine() {
    Edges.due("wind(0, 1)", Parlours.withSprings(1).wind(0, 1), 1);
    Edges.due("wind(0, 200000)", Parlours.withSprings(1).wind(0, 200000), 200000);
  }

  @Says("Throws `IllegalArgumentException` if turns is not 1 to 200000")
  static void turnsBelow1AreRefused() {
    Edges.refused(Edges.ARGUMENT, Parlours::lively, x -> x.wind(0, 0), x -> x.wind(0, -1),
        x -> x.wind(1, -200000), x -> x.wind(0, MIN));
  }

  @Says("Throws `IllegalArgumentException` if turns is not 1 to 200000")
  static void turnsAbove200000AreRefused() {
    Edges.refused(Edges.ARGUMENT, Parlours::lively, x -> x.wind(0, 200001), x -> x.wind(1, MAX),
        x -> x.wind(0, MAX - 1));
  }

  @Says("Throws `IndexOutOfBoundsException` if there is no such spring")
  static void windOfNoSuchSpringIsRefused() {
    Edges.refused(Edges.INDEX, Parlours::empty, x -> x.wind(0, 1));
    Edges.refused(Edges.INDEX, () -> Parlours.withSprings(3), x -> x.wind(3, 1),
        x -> x.wind(-1, 1), x -> x.wind(MIN, 1), x -> x.wind(MAX, 1));
    Edges.refused(Edges.INDEX, Parlours::full, x -> x.wind(4, 1), x -> x.wind(-1, 1));
  }

  @Says("If several exceptions apply, the one that is named first is thrown.")
  static void windOfNoSuchSpringByWrongTurnsIsAWrongIndex() {
    Edges.refused(Edges.INDEX, Parlours::full, x -> x.wind(4, 0), x -> x.wind(-1, 200001));
  }

  @Says("A method that throws an exception changes nothing.")
  static void aRefusedWindChangesNothing() {
    Edges.changeNothing(Parlours::lively, x -> x.wind(0, 0), x -> x.wind(0, -5),
        x -> x.wind(1, 200001), x -> x.wind(3, 1));
  }

  // ---- promise 4

  @Says("Returns whether it was before.")
  static void brakeAnswersHowItWasBefore() {
    BirdParlour x = Parlours.withSprings(2);
    Edges.due("let go what is not braked", x.brake(1, false), false);
    Edges.due("brake", x.brake(1, true), false);
    Edges.due("brake what is braked", x.brake(1, true), true);
    Edges.due("it is braked", x.spring(1, 4), 1);
    Edges.due("the other is not", x.spring(0, 4), 0);
    Edges.due("let go", x.brake(1, false), true);
    Edges.due("it is not braked", x.spring(1, 4), 0);
  }

  @Says("Throws `IndexOutOfBoundsException` if there is no such spring")
  static void brakeOfNoSuchSpringIsRefused() {
    Edges.refused(Edges.INDEX, Parlours::empty, x -> x.brake(0, true), x -> x.brake(0, false));
    Edges.refused(Edges.INDEX, () -> Parlours.withSprings(3), x -> x.brake(3, true),
        x -> x.brake(-1, true), x -> x.brake(MIN, false), x -> x.brake(MAX, true));
    Edges.refused(Edges.INDEX, Parlours::full, x -> x.brake(4, true), x -> x.brake(-1, false));
  }

  @Says("A method that throws an exception changes nothing.")
  static void aRefusedBrakeChangesNothing() {
    Edges.changeNothing(Parlours::lively, x -> x.brake(3, true), x -> x.brake(-1, true),
        x -> x.brake(-1, false));
    Edges.changeNothing(Parlours::full, x -> x.brake(4, true), x -> x.brake(4, false));
  }

  // ---- promise 5

  @Says("Returns how many pairs are coupled then.")
  static void atMostSixPairsAreCoupled() {
    BirdParlour x = Parlours.withSprings(4);
    int pairs = 0;
    for (int a = 0; a < 4; a++) {
      for (int b = a + 1; b < 4; b++) {
        pairs++;
        Edges.due("couple", x.couple(a, b, true), pairs);
      }
    }
    Edges.due("couple the first again", x.couple(0, 1, true), 6);
    Edges.due("pairs", x.count(3), 6);
  }

  @Says("Returns how many pairs are coupled then.")
  static void aPairCoupledTwiceCountsOnce() {
    BirdParlour x = Parlours.withSprings(3);
    Edges.due("couple", x.couple(0, 2, true), 1);
    Edges.due("couple again", x.couple(0, 2, true), 1);
    Edges.due("uncouple", x.couple(0, 2, false), 0);
  }

  @Says("Couples two springs, or uncouples them.")
  static void thePairIsTheSameTheOtherWayRound() {
    BirdParlour x = Parlours.withSprings(3);
    Edges.due("couple", x.couple(2, 1, true), 1);
    Edges.due("couple the other way round", x.couple(1, 2, true), 1);
    Edges.due("uncouple the other way round", x.couple(1, 2, false), 0);
  }

  @Says("Couples two springs, or uncouples them.")
  static void uncouplingWhatIsNotCoupledChangesNothing() {
    BirdParlour x = Parlours.withSprings(4);
    Edges.due("uncouple", x.couple(0, 1, false), 0);
    x.couple(2, 3, true);
    Edges.due("uncouple another pair", x.couple(0, 3, false), 1);
    Edges.due("pairs", x.count(3), 1);
  }

  @Says("Throws `IndexOutOfBoundsException` if there is no such spring")
  static void coupleOfNoSuchFirstSpringIsRefused() {
    Edges.refused(Edges.INDEX, () -> Parlours.withSprings(3), x -> x.couple(3, 0, true),
        x -> x.couple(-1, 0, true), x -> x.couple(MIN, 1, false), x -> x.couple(MAX, 1, true));
    Edges.refused(Edges.INDEX, Parlours::full, x -> x.couple(4, 0, true));
  }

  @Says("Throws `IndexOutOfBoundsException` if there is no such spring")
  static void coupleOfNoSuchSecondSpringIsRefused() {
    Edges.refused(Edges.INDEX, () -> Parlours.withSprings(3), x -> x.couple(0, 3, true),
        x -> x.couple(0, -1, true), x -> x.couple(1, MIN, false), x -> x.couple(1, MAX, true));
    Edges.refused(Edges.INDEX, Parlours::full, x -> x.couple(0, 4, true));
  }

  @Says("Throws `IllegalArgumentException` if both are the same")
  static void couplingASpringWithItselfIsRefused() {
    Edges.refused(Edges.ARGUMENT, Parlours::full, x -> x.couple(0, 0, true),
        x -> x.couple(3, 3, true), x -> x.couple(2, 2, false));
  }

  @Says("If several exceptions apply, the one that is named first is thrown.")
  static void couplingNoSuchSpringWithItselfIsAWrongIndex() {
    Edges.refused(Edges.INDEX, Parlours::empty, x -> x.couple(0, 0, true));
    Edges.refused(Edges.INDEX, Parlours::full, x -> x.couple(4, 4, true),
        x -> x.couple(-1, -1, false));
  }

  @Says("A method that throws an exception changes nothing.")
  static void aRefusedCoupleChangesNothing() {
    Edges.changeNothing(Parlours::lively, x -> x.couple(0, 0, true), x -> x.couple(3, 0, true),
        x -> x.couple(0, 3, true), x -> x.couple(0, -1, false), x -> x.couple(1, 1, false));
  }

  // ---- promise 6

  @Says("Throws `IndexOutOfBoundsException` if there is no such spring, or what is not 0 to 6")
  static void askingNoSuchSpringIsRefused() {
    Edges.refused(Edges.INDEX, Parlours::empty, x -> x.spring(0, 0));
    Edges.refused(Edges.INDEX, () -> Parlours.withSprings(3), x -> x.spring(3, 0),
        x -> x.spring(-1, 6), x -> x.spring(MIN, 0), x -> x.spring(MAX, 6));
    Edges.refused(Edges.INDEX, Parlours::full, x -> x.spring(4, 0), x -> x.spring(-1, 0));
  }

  @Says("Throws `IndexOutOfBoundsException` if there is no such spring, or what is not 0 to 6")
  static void askingASpringBelow0IsRefused() {
    Edges.refused(Edges.INDEX, Parlours::full, x -> x.spring(0, -1), x -> x.spring(3, MIN));
  }

  @Says("Throws `IndexOutOfBoundsException` if there is no such spring, or what is not 0 to 6")
  static void askingASpringAbove6IsRefused() {
    Edges.refused(Edges.INDEX, Parlours::full, x -> x.spring(0, 7), x -> x.spring(3, MAX));
  }

  @Says("A method that throws an exception changes nothing.")
  static void aRefusedQuestionAboutASpringChangesNothing() {
    Edges.changeNothing(Parlours::lively, x -> x.spring(3, 1), x -> x.spring(-1, 0),
        x -> x.spring(0, -1), x -> x.spring(0, 7));
  }

  @Says("0 its strength, 1 what it holds, 2 how far its shaft has gone in all, 3 its speed in the "
      + "latest tick, 4 1 if it is braked, else 0, 5 how many birds are engaged on it, 6 its load "
      + "as it would be now")
  static void askingASpring0To6IsFine() {
    BirdParlour x = Parlours.fast(10, 1, 1);
    x.run(1);
    int[] due = {50, 199600, 400, 400, 0, 1, 10};
    for (int what = 0; what <= 6; what++) {
      Edges.due("spring(0, " + what + ")", x.spring(0, what), due[what]);
    }
  }

  @Says("3 its speed in the latest tick")
  static void theSpeedAheadOfAllTicksIs0() {
    BirdParlour x = Parlours.fast(10, 1, 1);
    Edges.due("speed", x.spring(0, 3), 0);
    x.run(1);
    x.addSpring(50);
    Edges.due("speed of a spring that is new", x.spring(1, 3), 0);
  }

  @Says("3 its speed in the latest tick")
  static void theSpeedOfASpringThatDoesNotGoIs0() {
    BirdParlour x = Parlours.fast(10, 1, 1);
    x.run(1);
    x.brake(0, true);
    Edges.due("speed in the tick ahead of the brake", x.spring(0, 3), 400);
    x.run(1);
    Edges.due("speed when braked", x.spring(0, 3), 0);
    BirdParlour y = Parlours.withSprings(1);
    y.wind(0, 1);
    y.run(1);
    Edges.due("speed in the tick that empties it", y.spring(0, 3), 1);
    y.run(1);
    Edges.due("speed when it holds 0", y.spring(0, 3), 0);
  }

  @Says("5 how many birds are engaged on it")
  static void asManyAsEightBirdsAreEngagedOnASpring() {
    BirdParlour x = Parlours.withSprings(2);
    Edges.due("birds at first", x.spring(1, 5), 0);
    for (int k = 0; k < 8; k++) {
      x.addBird(1, 0, 8, 1, 1);
      Edges.due("birds", x.spring(1, 5), k + 1);
      Edges.due("birds of the other", x.spring(0, 5), 0);
    }
    for (int k = 0; k < 8; k++) {
      x.engage(k, false);
      Edges.due("birds", x.spring(1, 5), 7 - k);
    }
  }

  @Says("6 its load as it would be now")
  static void theLoadOfASpringWithoutBirdsIs10() {
    BirdParlour x = Parlours.withSprings(1);
    Edges.due("load", x.spring(0, 6), 10);
    x.addBird(0, 20, 8, 1, 1);
    x.engage(0, false);
    Edges.due("load with a bird that is not engaged", x.spring(0, 6), 10);
  }

  @Says("6 its load as it would be now")
  static void theLoadOfASpringThatDoesNotGoIsToldTheSame() {
    BirdParlour x = Parlours.withSprings(1);
    x.addBird(0, 20, 8, 1, 1);
    Edges.due("load when it holds 0", x.spring(0, 6), 30);
    x.wind(0, 100);
    x.brake(0, true);
    Edges.due("load when braked", x.spring(0, 6), 30);
    x.run(1);
    Edges.due("load when braked, behind a tick", x.spring(0, 6), 30);
  }

  @Says("6 its load as it would be now")
  static void theMostLoadIs650() {
    BirdParlour x = Parlours.withSprings(1);
    for (int bird = 0; bird < 8; bird++) {
      x.addBird(0, 20, 8, 1, 1);
      for (int cam = 0; cam < 3; cam++) {
        x.point(bird, cam, bird, 100);
      }
    }
    Edges.due("load", x.spring(0, 6), 10 + 8 * (20 + 60));
  }
}
