import java.math.BigInteger;

/** The edges that the promises 20 to 22 name, and the number of calls of an object. */
public final class EdgesAheadTest {
  private static final int MIN = Integer.MIN_VALUE;
  private static final int MAX = Integer.MAX_VALUE;

  public static void main(String[] args) throws IllegalAccessException {
    Edges.runAll(EdgesAheadTest.class);
  }

  /** A spring that goes 1 thousandth a tick, and so is run down behind so many ticks. */
  private static BirdParlour ticksToGo(int ticks) {
    BirdParlour x = new BirdParlour();
    x.addSpring(1);
    x.wind(0, ticks);
    return x;
  }

  // ---- promise 20

  @Says("how many ticks at most, 1 to 2000")
  static void oneTickAnd2000AheadAreFine() {
    Edges.due("runsDown(1)", ticksToGo(5).runsDown(1), -1);
    Edges.due("runsDown(2000)", ticksToGo(5).runsDown(2000), 5);
  }

  @Says("Throws `IllegalArgumentException` if most is not 1 to 2000")
  static void lessThanATickAheadIsRefused() {
    Edges.refused(Edges.ARGUMENT, Parlours::empty, x -> x.runsDown(0), x -> x.runsDown(MIN));
    Edges.refused(Edges.ARGUMENT, Parlours::lively, x -> x.runsDown(0), x -> x.runsDown(-1),
        x -> x.runsDown(-2000));
  }

  @Says("Throws `IllegalArgumentException` if most is not 1 to 2000")
  static void moreThan2000TicksAheadAreRefused() {
    Edges.refused(Edges.ARGUMENT, Parlours::empty, x -> x.runsDown(2001));
    Edges.refused(Edges.ARGUMENT, Parlours::lively, x -> x.runsDown(2001), x -> x.runsDown(MAX));
  }

  @Says("A method that throws an exception changes nothing.")
  static void aRefusedRunsDownChangesNothing() {
    Edges.changeNothing(Parlours::lively, x -> x.runsDown(0), x -> x.runsDown(-1),
        x -> x.runsDown(2001));
  }

  @Says("(the tick that is now, if they do already)")
  static void holding0AlreadyItIsTheTickThatIsNow() {
    BirdParlour x = Parlours.withSprings(4);
    Edges.due("at the tick 0", x.runsDown(1), 0);
    x.run(7);
    Edges.due("at the tick 7", x.runsDown(1), 7);
    Edges.due("at the tick 7", x.runsDown(2000), 7);
  }

  @Says("(the tick that is now, if they do already)")
  static void withoutSpringsItIsTheTickThatIsNow() {
    BirdParlour x = new BirdParlour();
    Edges.due("at the tick 0", x.runsDown(2000), 0);
    x.run(3);
    Edges.due("at the tick 3", x.runsDown(1), 3);
  }

  @Says("all springs that are not braked hold 0")
  static void withAllSpringsBrakedItIsTheTickThatIsNow() {
    BirdParlour x = Parlours.withSprings(2);
    x.wind(0, 200000);
    x.brake(0, true);
    x.brake(1, true);
    x.run(2);
    Edges.due("runsDown", x.runsDown(1), 2);
  }

  @Says("all springs that are not braked hold 0")
  static void aBrakedSpringMayHoldWhatItDoes() {
    BirdParlour x = ticksToGo(30);
    x.addSpring(1);
    x.wind(1, 200000);
    Edges.due("not braked", x.runsDown(2000), -1);
    x.brake(1, true);
    Edges.due("braked", x.runsDown(2000), 30);
    x.brake(1, false);
    Edges.due("not braked again", x.runsDown(2000), -1);
  }

  @Says("all springs that are not braked hold 0")
  static void theLastSpringThatIsRunDownCounts() {
    BirdParlour x = ticksToGo(30);
    x.addSpring(1);
    x.addSpring(1);
    x.wind(1, 50);
    x.wind(2, 40);
    Edges.due("runsDown", x.runsDown(2000), 50);
  }

  @Says("-1 if none of so many ticks is it")
  static void theLastOfSoManyTicksIsOneOfThem() {
    Edges.due("1 of 1", ticksToGo(1).runsDown(1), 1);
    Edges.due("50 of 50", ticksToGo(50).runsDown(50), 50);
    BirdParlour x = ticksToGo(50);
    x.run(20);
    Edges.due("30 of 30, from the tick 20 on", x.runsDown(30), 50);
  }

  @Says("-1 if none of so many ticks is it")
  static void aTickTooFewIsLess1() {
    Edges.due("2 of 1", ticksToGo(2).runsDown(1), -1);
    Edges.due("50 of 49", ticksToGo(50).runsDown(49), -1);
    BirdParlour x = ticksToGo(50);
    x.run(20);
    Edges.due("30 of 29, from the tick 20 on", x.runsDown(29), -1);
  }

  @Says("how many ticks at most, 1 to 2000")
  static void justThe2000thTickAheadIsFound() {
    // up to 3999 it goes 1 a tick
    Edges.due("2000 of 2000", ticksToGo(2000).runsDown(2000), 2000);
    Edges.due("2000 of 1999", ticksToGo(2000).runsDown(1999), -1);
    Edges.due("2001 of 2000", ticksToGo(2001).runsDown(2000), -1);
  }

  @Says("Returns the first tick from now on behind which all springs that are not braked hold 0")
  static void theFirstSuchTickIsToldThoughTheyAreFedLater() {
    BirdParlour x = Parlours.withSprings(2);
    x.wind(1, 100);
    x.brake(1, true);
    x.couple(0, 1, true);
    Edges.due("it holds 0 now", x.runsDown(2000), 0);
    x.run(1);
    Edges.due("it is fed then", x.spring(0, 1), 9);
  }

  @Says("Returns the first tick from now on behind which all springs that are not braked hold 0")
  static void itIsTheTickThatComes() {
    BirdParlour x = new BirdParlour();
    x.addSpring(40);
    x.addSpring(9);
    x.wind(0, 2000);
    x.couple(0, 1, true);
    x.addBird(0, 3, 10, 7, 3);
    x.addBird(1, 2, 33, 12, 1);
    x.point(0, 1, 4, 90);
    x.point(0, 1, 9, 10);
    x.pin(0, 3, 3);
    x.pin(1, 0, 1);
    int told = x.runsDown(2000);
    Edges.due("some ticks on", told > 50 && told <= 500, true);
    x.run(told - 1);
    Edges.due("a tick ahead of it, not run down", x.count(5) > 0, true);
    x.run(1);
    Edges.due("run down", x.count(5), 0);
    Edges.due("now", x.runsDown(1), told);
  }

  @Says("(nothing is changed)")
  static void lookingAheadChangesNothing() {
    for (int most : new int[] {1, 20, 2000}) {
      BirdParlour x = Parlours.lively();
      x.runsDown(most);
      Edges.dueAlike("runsDown(" + most + ")", x, Parlours.lively());
    }
    BirdParlour y = Parlours.full();
    y.runsDown(2000);
    Edges.dueAlike("runsDown of a full one", y, Parlours.full());
  }

  @Says("(nothing is changed)")
  static void lookingAheadToTheEndChangesNothing() {
    BirdParlour x = ticksToGo(50);
    Edges.due("runsDown", x.runsDown(50), 50);
    Edges.dueAlike("found", x, ticksToGo(50));
    BirdParlour y = ticksToGo(50);
    Edges.due("runsDown", y.runsDown(49), -1);
    Edges.dueAlike("not found", y, ticksToGo(50));
  }

  @Says("(nothing is changed)")
  static void lookingAheadKeepsNoNotes() {
    BirdParlour x = Parlours.loud();
    x.run(9);
    // 225 are kept; the next tick fills the songs
    x.runsDown(3);
    Edges.due("counted", x.count(4), 225);
    Edges.due("kept", x.sung(224, 0), 9);
    Edges.due("of the tick 10", x.chord(10), 0);
    Edges.due("longest", x.longest(), 20);
    Edges.due("notes of the first bird", x.bird(0, 9), 180);
    Edges.due("tick", x.count(0), 9);
    Edges.due("emptySongs", x.emptySongs(), 225);
  }

  // ---- promise 21

  @Says("0 if there are none")
  static void theTensionOfNoSpringsIs0() {
    Edges.dueDouble("tension", new BirdParlour().tension(), 0.0);
  }

  @Says("what all springs hold, divided by 1000 times their number")
  static void theTensionOfEmptySpringsIs0() {
    Edges.dueDouble("of one", Parlours.withSprings(1).tension(), 0.0);
    Edges.dueDouble("of four", Parlours.withSprings(4).tension(), 0.0);
  }

  @Says("what all springs hold, divided by 1000 times their number")
  static void theTensionOfFullSpringsIs200() {
    for (int springs = 1; springs <= 4; springs++) {
      BirdParlour x = Parlours.withSprings(springs);
      for (int k = 0; k < springs; k++) {
        x.wind(k, 200000);
      }
      Edges.dueDouble("of " + springs, x.tension(), 200.0);
    }
  }

  @Says("what all springs hold, divided by 1000 times their number")
  static void theTensionIsNotCut() {
    BirdParlour x = Parlours.withSprings(1);
    x.wind(0, 1);
    Edges.dueDouble("of one that holds 1", x.tension(), 0.001);
    x.addSpring(1);
    x.addSpring(1);
    x.wind(2, 1999);
    x.brake(2, true);
    Edges.dueDouble("of three that hold 2000", x.tension(), 2000.0 / 3000.0);
  }

  // ---- promise 22

  private static final BigInteger FACTOR = BigInteger.valueOf(31);

  private static BigInteger with(BigInteger d, int x) {
    return d.multiply(FACTOR).add(BigInteger.valueOf(x));
  }

  /** The digest without any wrap-around, of what the parlour tells (its levers are as at first). */
  private static BigInteger unwrapped(BirdParlour x) {
    BigInteger d = BigInteger.valueOf(449);
    for (int what = 0; what <= 5; what++) {
      d = with(d, x.count(what));
    }
    for (int spring = 0; spring < x.count(1); spring++) {
      for (int what = 0; what <= 6; what++) {
        d = with(d, x.spring(spring, what));
      }
    }
    for (int bird = 0; bird < x.count(2); bird++) {
      for (int what = 0; what <= 9; what++) {
        d = with(d, x.bird(bird, what));
      }
      for (int lever = 0; lever < 6; lever++) {
        d = with(d, 60 + 2 * lever);
      }
      for (int cam = 0; cam < 3; cam++) {
        d = with(d, x.lift(bird, cam, -1));
      }
    }
    int kept = Math.min(x.count(4), 250);
    for (int index = 0; index < kept; index++) {
      for (int what = 0; what <= 3; what++) {
        d = with(d, x.sung(index, what));
      }
    }
    return d;
  }

  @Says("A number d starts with 449")
  static void theDigestOfAnEmptyParlourIsOfItsCounts() {
    Edges.due("digest", new BirdParlour().digest(), 449L * 31 * 31 * 31 * 31 * 31 * 31);
  }

  @Says("which wraps around as a 64-bit integer")
  static void theDigestWrapsAround() {
    BirdParlour x = Parlours.withSprings(2);
    x.addBird(1, 3, 8, 2, 1);
    x.wind(1, 150000);
    x.point(0, 0, 0, 50);
    x.point(0, 0, 4, 10);
    x.run(1);
    Edges.due("place", x.bird(0, 5), 5);
    BigInteger whole = unwrapped(x);
    Edges.due("it has more than 64 bits", whole.bitLength() > 64, true);
    Edges.due("digest", x.digest(), whole.longValue());
  }

  @Says("which wraps around as a 64-bit integer")
  static void theDigestWrapsAroundWithManyNotes() {
    BirdParlour x = Parlours.loud();
    x.run(4);
    Edges.due("digest of 100 notes", x.digest(), unwrapped(x).longValue());
  }

  @Says("for each kept note what sung() tells, in its order")
  static void notesThatAreNotKeptAreNotInTheDigest() {
    BirdParlour x = Parlours.loud();
    x.run(11);
    BigInteger d = BigInteger.valueOf(449);
    int held = 200000 - 11 * 400 - 2750;
    int[] ahead = {
      11, 1, 2, 0, 275, held,
      50, held, 4400, 400, 0, 2, 10,
      0, 0, 8, 5, 2, 0, 1, 20, 88, 220, 60, 62, 64, 66, 68, 70, 0, 0, 0,
      0, 0, 8, 5, 2, 0, 1, 5, 88, 55, 60, 62, 64, 66, 68, 70, 0, 0, 0,
    };
    for (int k : ahead) {
      d = with(d, k);
    }
    for (int index = 0; index < 250; index++) {
      for (int what = 0; what <= 3; what++) {
        d = with(d, note(index, what));
      }
    }
    Edges.due("digest", x.digest(), d.longValue());
  }

  /** What sung() tells of the loud parlour: 25 notes a tick, at the places 1 to 7 and then 0. */
  private static int note(int index, int what) {
    int[] first = {3, 3, 3, 2, 2, 2, 2, 3};
    int k = index % 25;
    int bird = k < 20 ? 0 : 1;
    int lever = 0;
    if (bird == 0) {
      int place = 0;
      while (k >= first[place]) {
        k -= first[place];
        place++;
      }
      lever = k;
    }
    return new int[] {index / 25 + 1, bird, lever, 60 + 2 * lever}[what];
  }

  @Says("Computes a checksum.")
  static void theDigestChangesNothing() {
    BirdParlour x = Parlours.lively();
    long first = x.digest();
    Edges.due("again", x.digest(), first);
    Edges.dueAlike("digest", x, Parlours.lively());
  }

  // ---- what it is

  @Says("An object is used for at most 512 calls after it has been made")
  static void allOf512CallsAreAnswered() {
    BirdParlour x = new BirdParlour();
    x.addSpring(50);
    x.addBird(0, 0, 96, 12, 1);
    for (int k = 0; k < 254; k++) {
      x.wind(0, 200000);
      x.run(450);
    }
    int shaft = 254 * 450 * 400;
    Edges.due("the 511th call", x.spring(0, 2), shaft);
    Edges.due("the 512th call", x.bird(0, 8), shaft * 1152L / 1000);
  }
}
