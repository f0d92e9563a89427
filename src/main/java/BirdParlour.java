/** A parlour of mechanical birds: springs turn shafts, shafts drive barrels, pins sound songs. */
public final class BirdParlour {

  private static final int MOST_SPRINGS = 4;
  private static final int MOST_STRENGTH = 50;
  private static final int MOST_HELD = 200000;
  private static final int SHARE = 10;
  private static final int BARE_LOAD = 10;
  private static final int LOAD_FACTOR = 200;
  private static final int MOST_SPEED = 400;

  private static final int MOST_BIRDS = 8;
  private static final int MOST_WEIGHT = 20;
  private static final int LEAST_PLACES = 8;
  private static final int MOST_PLACES = 96;
  private static final int MOST_GEAR = 12;
  private static final int MOST_PINS = 24;
  private static final int LEVERS = 6;
  private static final int MOST_NOTE = 87;
  private static final int CAMS = 3;
  private static final int MOST_POINTS = 8;
  private static final int MOST_LIFT = 100;
  private static final int NO_LIFT = -1;
  private static final int LIFTS_PER_LOAD = 5;

  private static final int MOST_TICKS = 500;
  private static final int MOST_TICKS_AHEAD = 2000;
  private static final int NOTE_COST = 10;
  private static final int MOST_KEPT = 250;
  private static final int PER_NOTE = 4;
  private static final int THOUSAND = 1000;
  private static final int BITS_OF_LONG = 64;

  private static final long DIGEST_START = 449;
  private static final int DIGEST_FACTOR = 31;
  private static final int COUNT_ANSWERS = 6;
  private static final int SPRING_ANSWERS = 7;
  private static final int BIRD_ANSWERS = 10;

  /** A spring with its shaft. */
  private static final class Spring {
    final int strength;
    int held;
    long shaft;
    int speed;
    boolean isBraked;
    int heldBefore;
    long shaftBefore;
    int speedBefore;

    Spring(int strength) {
      this.strength = strength;
    }

    void remember() {
      heldBefore = held;
      shaftBefore = shaft;
      speedBefore = speed;
    }

    void recall() {
      held = heldBefore;
      shaft = shaftBefore;
      speed = speedBefore;
    }

    int speedUnder(int load) {
      int resistance = LOAD_FACTOR * load;
      int pull = resistance > 0 ? strength * held / resistance : 0;
      return Math.min(Math.min(Math.max(pull, 1), MOST_SPEED), held);
    }

    void turn(int by) {
      speed = by;
      shaft += by;
      held -= by;
    }

    void payForNote() {
      held -= Math.min(NOTE_COST, held);
    }
  }

  /** A cam: its points, and the lift at every place, drawn anew when a point changes. */
  private static final class Cam {
    // 1 where a point stands; its own lift is then the one in lifts
    final int[] marks = new int[MOST_PLACES];
    final int[] lifts = new int[MOST_PLACES];
    int points;

    boolean hasPoint(int place) {
      return at(marks, place) == 1;
    }

    void layPoint(int place, int lift, int places) {
      if (!hasPoint(place)) {
        points++;
      }
      put(marks, place, 1);
      put(lifts, place, lift);
      draw(places);
    }

    void takePoint(int place, int places) {
      if (hasPoint(place)) {
        points--;
      }
      put(marks, place, 0);
      draw(places);
    }

    void draw(int places) {
      for (int place = 0; place < places; place++) {
        if (hasPoint(place)) {
          drawBehind(place, places);
        } else if (points == 0) {
          put(lifts, place, 0);
        }
      }
    }

    // draws from a point to the next one round the barrel, which is itself if there is no other
    void drawBehind(int place, int places) {
      int span = 1;
      while (span < places && !hasPoint(remainder(place + span, places))) {
        span++;
      }
      int from = at(lifts, place);
      int rise = at(lifts, remainder(place + span, places)) - from;
      for (int k = 1; k < span; k++) {
        put(lifts, remainder(place + k, places), from + Math.floorDiv(rise * k, span));
      }
    }
  }

  /** A bird with its barrel, levers and cams. */
  private static final class Bird {
    final int spring;
    final int weight;
    final int places;
    final int p;
    final int q;
    // for each place of the barrel, one bit for each lever that a pin there moves
    final int[] levers = new int[MOST_PLACES];
    final int[] notes = new int[LEVERS];
    final Cam[] cams = new Cam[CAMS];
    int pins;
    boolean isEngaged;
    long shaftAtStart;
    long gone;
    int sounded;
    long goneBefore;
    int soundedBefore;

    Bird(int spring, int weight, int places, int p, int q, long shaft) {
      this.spring = spring;
      this.weight = weight;
      this.places = places;
      this.p = p;
      this.q = q;
      isEngaged = true;
      shaftAtStart = shaft;
      for (int lever = 0; lever < notes.length; lever++) {
        notes[lever] = 60 + 2 * lever;
      }
      for (int cam = 0; cam < cams.length; cam++) {
        cams[cam] = new Cam();
      }
    }

    void remember() {
      goneBefore = gone;
      soundedBefore = sounded;
    }

    void recall() {
      gone = goneBefore;
      sounded = soundedBefore;
    }

    boolean isDrivenBy(int number) {
      return isEngaged && spring == number;
    }

    void startAnew(long shaft) {
      shaftAtStart = shaft;
      gone = 0;
    }

    long goneWhen(long shaft) {
      long slowness = (long) THOUSAND * q;
      return slowness > 0 ? (shaft - shaftAtStart) * p * places / slowness : 0;
    }

    int placeWhenGone(long way) {
      return places > 0 ? (int) (way % places) : 0;
    }

    int placeNow() {
      return placeWhenGone(gone);
    }

    boolean hasPlace(int place) {
      return isIn(place, 0, places - 1);
    }

    boolean hasPin(int place, int lever) {
      return ((at(levers, place) >> lever) & 1) == 1;
    }

    void turnPin(int place, int lever) {
      pins += hasPin(place, lever) ? -1 : 1;
      put(levers, place, at(levers, place) ^ (1 << lever));
    }

    Cam camAt(int number) {
      return number >= 0 && number < cams.length ? cams[number] : null;
    }

    int burden() {
      int place = placeNow();
      int lifts = 0;
      for (Cam cam : cams) {
        if (cam != null) {
          lifts += at(cam.lifts, place);
        }
      }
      return weight + lifts / LIFTS_PER_LOAD;
    }
  }

  /** The notes that sounded: all are counted, the first ones are kept. */
  private static final class Songs {
    // of each kept note, one behind the other: its tick, bird, lever and note
    final int[] kept = new int[MOST_KEPT * PER_NOTE];
    int keptNotes;
    int allNotes;
    int keptBefore;
    int allBefore;

    // what is kept later stands behind what is kept now, so the numbers are enough
    void remember() {
      keptBefore = keptNotes;
      allBefore = allNotes;
    }

    void recall() {
      keptNotes = keptBefore;
      allNotes = allBefore;
    }

    void hear(int tick, int bird, int lever, int note) {
      allNotes++;
      if (keptNotes < MOST_KEPT) {
        int start = keptNotes * PER_NOTE;
        put(kept, start, tick);
        put(kept, start + 1, bird);
        put(kept, start + 2, lever);
        put(kept, start + 3, note);
        keptNotes++;
      }
    }

    int told(int index, int what) {
      return at(kept, index * PER_NOTE + what);
    }

    void clearAll() {
      keptNotes = 0;
      allNotes = 0;
    }
  }

  private final Spring[] springs = new Spring[MOST_SPRINGS];
  private final Bird[] birds = new Bird[MOST_BIRDS];
  private final Songs songs = new Songs();
  private int springCount;
  private int birdCount;
  // one bit for each pair of springs that is coupled
  private int couplings;
  private int tick;

  /** Creates an empty parlour at the tick 0. */
  public BirdParlour() {
  }

  // ---- springs

  /** Adds a spring and returns its number. */
  public int addSpring(int strength) throws IllegalArgumentException, IllegalStateException {
    if (!isIn(strength, 1, MOST_STRENGTH)) {
      throw new IllegalArgumentException("strength is not 1 to 50");
    }
    int number = springCount;
    if (number < 0 || number >= springs.length) {
      throw new IllegalStateException("there are 4 springs");
    }
    springs[number] = new Spring(strength);
    springCount++;
    return number;
  }

  /** Winds a spring by thousandths of a turn and returns what it holds then. */
  public int wind(int spring, int turns)
      throws IndexOutOfBoundsException, IllegalArgumentException {
    Spring found = springAt(spring);
    if (found == null) {
      throw new IndexOutOfBoundsException("no such spring");
    }
    if (!isIn(turns, 1, MOST_HELD)) {
      throw new IllegalArgumentException("turns is not 1 to 200000");
    }
    found.held = Math.min(found.held + turns, MOST_HELD);
    return found.held;
  }

  /** Brakes a spring, or lets it go, and returns whether it was braked before. */
  public boolean brake(int spring, boolean isOn) throws IndexOutOfBoundsException {
    Spring found = springAt(spring);
    if (found == null) {
      throw new IndexOutOfBoundsException("no such spring");
    }
    boolean wasBraked = found.isBraked;
    found.isBraked = isOn;
    return wasBraked;
  }

  /** Couples two springs, or uncouples them, and returns how many pairs are coupled then. */
  public int couple(int a, int b, boolean areBoth)
      throws IndexOutOfBoundsException, IllegalArgumentException {
    if (springAt(a) == null || springAt(b) == null) {
      throw new IndexOutOfBoundsException("no such spring");
    }
    if (a == b) {
      throw new IllegalArgumentException("both are the same spring");
    }
    int pair = pairBit(a, b);
    couplings = areBoth ? couplings | pair : couplings & ~pair;
    return Integer.bitCount(couplings);
  }

  /** Tells of a spring what the document numbers 0 to 6. */
  public int spring(int spring, int what) throws IndexOutOfBoundsException {
    Spring found = springAt(spring);
    if (found == null) {
      throw new IndexOutOfBoundsException("no such spring");
    }
    switch (what) {
      case 0:
        return found.strength;
      case 1:
        return found.held;
      case 2:
        return (int) found.shaft;
      case 3:
        return found.speed;
      case 4:
        return found.isBraked ? 1 : 0;
      case 5:
        return birdsDrivenBy(spring);
      case 6:
        return loadOn(spring);
      default:
        throw new IndexOutOfBoundsException("what is not 0 to 6");
    }
  }

  // ---- birds

  /** Adds a bird to the shaft of a spring and returns its number. */
  public int addBird(int spring, int weight, int places, int p, int q)
      throws IndexOutOfBoundsException, IllegalArgumentException, IllegalStateException {
    Spring driver = springAt(spring);
    if (driver == null) {
      throw new IndexOutOfBoundsException("no such spring");
    }
    if (!isIn(weight, 0, MOST_WEIGHT)) {
      throw new IllegalArgumentException("weight is not 0 to 20");
    }
    if (!isIn(places, LEAST_PLACES, MOST_PLACES)) {
      throw new IllegalArgumentException("places is not 8 to 96");
    }
    if (!isIn(p, 1, MOST_GEAR) || !isIn(q, 1, MOST_GEAR)) {
      throw new IllegalArgumentException("p or q is not 1 to 12");
    }
    int number = birdCount;
    if (number < 0 || number >= birds.length) {
      throw new IllegalStateException("there are 8 birds");
    }
    birds[number] = new Bird(spring, weight, places, p, q, driver.shaft);
    birdCount++;
    return number;
  }

  /** Engages a bird, or disengages it, and returns whether it was engaged before. */
  public boolean engage(int bird, boolean isOn) throws IndexOutOfBoundsException {
    Bird found = birdAt(bird);
    if (found == null) {
      throw new IndexOutOfBoundsException("no such bird");
    }
    boolean wasEngaged = found.isEngaged;
    if (isOn && !wasEngaged) {
      Spring driver = springAt(found.spring);
      found.startAnew(driver == null ? 0 : driver.shaft);
    }
    found.isEngaged = isOn;
    return wasEngaged;
  }

  /** Lays a pin, or takes it away if it is there, and returns the number of pins then. */
  public int pin(int bird, int place, int lever)
      throws IndexOutOfBoundsException, IllegalArgumentException, IllegalStateException {
    Bird found = birdAt(bird);
    if (found == null) {
      throw new IndexOutOfBoundsException("no such bird");
    }
    if (!found.hasPlace(place)) {
      throw new IllegalArgumentException("place is not on the barrel");
    }
    if (!isIn(lever, 0, LEVERS - 1)) {
      throw new IllegalArgumentException("lever is not 0 to 5");
    }
    if (!found.hasPin(place, lever) && found.pins >= MOST_PINS) {
      throw new IllegalStateException("there are 24 pins");
    }
    found.turnPin(place, lever);
    return found.pins;
  }

  /** Tunes a lever and returns its note before. */
  public int tune(int bird, int lever, int note)
      throws IndexOutOfBoundsException, IllegalArgumentException {
    Bird found = birdAt(bird);
    if (found == null) {
      throw new IndexOutOfBoundsException("no such bird");
    }
    if (!isIn(lever, 0, LEVERS - 1)) {
      throw new IndexOutOfBoundsException("lever is not 0 to 5");
    }
    if (!isIn(note, 0, MOST_NOTE)) {
      throw new IllegalArgumentException("note is not 0 to 87");
    }
    int before = at(found.notes, lever);
    put(found.notes, lever, note);
    return before;
  }

  /** Lays a point of a cam, or takes it away, and returns the cam's number of points then. */
  public int point(int bird, int cam, int place, int lift)
      throws IndexOutOfBoundsException, IllegalArgumentException, IllegalStateException {
    Bird found = birdAt(bird);
    Cam turned = found == null ? null : found.camAt(cam);
    if (found == null || turned == null) {
      throw new IndexOutOfBoundsException("no such bird or cam");
    }
    if (!found.hasPlace(place)) {
      throw new IllegalArgumentException("place is not on the barrel");
    }
    if (!isIn(lift, NO_LIFT, MOST_LIFT)) {
      throw new IllegalArgumentException("lift is not -1 to 100");
    }
    boolean isThere = turned.hasPoint(place);
    if (lift == NO_LIFT && !isThere) {
      throw new IllegalStateException("there is no point to take away");
    }
    if (!isThere && turned.points >= MOST_POINTS) {
      throw new IllegalStateException("the cam has 8 points");
    }
    if (lift == NO_LIFT) {
      turned.takePoint(place, found.places);
    } else {
      turned.layPoint(place, lift, found.places);
    }
    return turned.points;
  }

  /** Tells of a bird what the document numbers 0 to 9. */
  public int bird(int bird, int what) throws IndexOutOfBoundsException {
    Bird found = birdAt(bird);
    if (found == null) {
      throw new IndexOutOfBoundsException("no such bird");
    }
    switch (what) {
      case 0:
        return found.spring;
      case 1:
        return found.weight;
      case 2:
        return found.places;
      case 3:
        return found.p;
      case 4:
        return found.q;
      case 5:
        return found.placeNow();
      case 6:
        return found.isEngaged ? 1 : 0;
      case 7:
        return found.pins;
      case 8:
        return (int) found.gone;
      case 9:
        return found.sounded;
      default:
        throw new IndexOutOfBoundsException("what is not 0 to 9");
    }
  }

  /** Tells the lift of a cam at a place, or with -1 where the barrel is. */
  public int lift(int bird, int cam, int place)
      throws IndexOutOfBoundsException, IllegalArgumentException {
    Bird found = birdAt(bird);
    Cam asked = found == null ? null : found.camAt(cam);
    if (found == null || asked == null) {
      throw new IndexOutOfBoundsException("no such bird or cam");
    }
    if (place != -1 && !found.hasPlace(place)) {
      throw new IllegalArgumentException("place is neither -1 nor on the barrel");
    }
    return at(asked.lifts, place == -1 ? found.placeNow() : place);
  }

  // ---- ticks and songs

  /** Lets ticks go by and returns how many notes sounded. */
  public int run(int ticks) throws IllegalArgumentException {
    if (!isIn(ticks, 1, MOST_TICKS)) {
      throw new IllegalArgumentException("ticks is not 1 to 500");
    }
    int sounded = 0;
    for (int k = 0; k < ticks; k++) {
      sounded += goOneTick();
    }
    return sounded;
  }

  /** Counts what the document numbers 0 to 5. */
  public int count(int what) throws IndexOutOfBoundsException {
    switch (what) {
      case 0:
        return tick;
      case 1:
        return springCount;
      case 2:
        return birdCount;
      case 3:
        return Integer.bitCount(couplings);
      case 4:
        return songs.allNotes;
      case 5:
        return heldByAll();
      default:
        throw new IndexOutOfBoundsException("what is not 0 to 5");
    }
  }

  /** Tells of a kept note its tick, bird, lever or note. */
  public int sung(int index, int what) throws IndexOutOfBoundsException {
    if (!isIn(index, 0, songs.keptNotes - 1)) {
      throw new IndexOutOfBoundsException("no such note");
    }
    if (!isIn(what, 0, PER_NOTE - 1)) {
      throw new IndexOutOfBoundsException("what is not 0 to 3");
    }
    return songs.told(index, what);
  }

  /** Tells how many different notes are kept that sounded at a tick. */
  public int chord(int tick) throws IllegalArgumentException {
    if (tick < 0) {
      throw new IllegalArgumentException("tick is less than 0");
    }
    // one bit for each note that was met: 0 to 63 in the first, 64 to 87 in the second
    long low = 0;
    long high = 0;
    for (int k = 0; k < songs.keptNotes; k++) {
      if (songs.told(k, 0) == tick) {
        int note = songs.told(k, 3);
        if (note < BITS_OF_LONG) {
          low |= 1L << note;
        } else {
          high |= 1L << (note - BITS_OF_LONG);
        }
      }
    }
    return Long.bitCount(low) + Long.bitCount(high);
  }

  /** Tells the most kept notes of one bird, one behind the other. */
  public int longest() {
    int most = 0;
    int row = 0;
    int singer = -1;
    for (int k = 0; k < songs.keptNotes; k++) {
      int bird = songs.told(k, 1);
      row = bird == singer ? row + 1 : 1;
      singer = bird;
      most = Math.max(most, row);
    }
    return most;
  }

  /** Empties the songs and returns how many notes were kept. */
  public int emptySongs() {
    int kept = songs.keptNotes;
    songs.clearAll();
    return kept;
  }

  // ---- looking ahead

  /** Tells the first tick behind which all springs that are not braked hold 0, or -1. */
  public int runsDown(int most) throws IllegalArgumentException {
    if (!isIn(most, 1, MOST_TICKS_AHEAD)) {
      throw new IllegalArgumentException("most is not 1 to 2000");
    }
    int now = tick;
    rememberAll();
    boolean isDown = areAllDown();
    for (int k = 0; k < most && !isDown; k++) {
      goOneTick();
      isDown = areAllDown();
    }
    int last = tick;
    recallAll();
    tick = now;
    return isDown ? last : -1;
  }

  /** Tells how many turns the springs hold on an average. */
  public double tension() {
    if (springCount <= 0) {
      return 0;
    }
    return (double) heldByAll() / (THOUSAND * springCount);
  }

  /** Computes a checksum of all that the parlour tells. */
  public long digest() {
    long d = DIGEST_START;
    for (int what = 0; what < COUNT_ANSWERS; what++) {
      d = mix(d, count(what));
    }
    for (int number = 0; number < springCount; number++) {
      for (int what = 0; what < SPRING_ANSWERS; what++) {
        d = mix(d, spring(number, what));
      }
    }
    for (int number = 0; number < birdCount; number++) {
      d = mixBird(d, number);
    }
    for (int index = 0; index < songs.keptNotes; index++) {
      for (int what = 0; what < PER_NOTE; what++) {
        d = mix(d, sung(index, what));
      }
    }
    return d;
  }

  // ---- a tick

  private int goOneTick() {
    tick++;
    shareBetweenCoupled();
    int sounded = 0;
    for (int number = 0; number < springs.length; number++) {
      Spring spring = springs[number];
      if (spring != null) {
        sounded += goShaft(number, spring);
      }
    }
    return sounded;
  }

  private void shareBetweenCoupled() {
    for (int a = 0; a < springs.length; a++) {
      for (int b = a + 1; b < springs.length; b++) {
        if ((couplings & pairBit(a, b)) != 0) {
          shareBetween(springAt(a), springAt(b));
        }
      }
    }
  }

  private static void shareBetween(Spring a, Spring b) {
    if (a != null && b != null) {
      int d = (a.held - b.held) / SHARE;
      a.held -= d;
      b.held += d;
    }
  }

  private int goShaft(int number, Spring spring) {
    if (spring.isBraked || spring.held <= 0) {
      spring.speed = 0;
      return 0;
    }
    spring.turn(spring.speedUnder(loadOn(number)));
    int sounded = 0;
    for (int k = 0; k < birds.length; k++) {
      Bird bird = birds[k];
      if (bird != null && bird.isDrivenBy(number)) {
        sounded += goBarrel(k, bird, spring);
      }
    }
    return sounded;
  }

  private int goBarrel(int number, Bird bird, Spring spring) {
    long before = bird.gone;
    bird.gone = bird.goneWhen(spring.shaft);
    int sounded = 0;
    for (long left = Math.min(bird.gone - before, bird.places); left > 0; left--) {
      int place = bird.placeWhenGone(bird.gone - left + 1);
      if (at(bird.levers, place) != 0) {
        sounded += soundPlace(number, bird, spring, place);
      }
    }
    return sounded;
  }

  private int soundPlace(int number, Bird bird, Spring spring, int place) {
    int sounded = 0;
    for (int lever = 0; lever < LEVERS; lever++) {
      if (bird.hasPin(place, lever)) {
        spring.payForNote();
        songs.hear(tick, number, lever, at(bird.notes, lever));
        sounded++;
      }
    }
    bird.sounded += sounded;
    return sounded;
  }

  // ---- the whole parlour

  private Spring springAt(int number) {
    return number >= 0 && number < springs.length ? springs[number] : null;
  }

  private Bird birdAt(int number) {
    return number >= 0 && number < birds.length ? birds[number] : null;
  }

  private int birdsDrivenBy(int spring) {
    int driven = 0;
    for (Bird bird : birds) {
      if (bird != null && bird.isDrivenBy(spring)) {
        driven++;
      }
    }
    return driven;
  }

  private int loadOn(int spring) {
    int load = BARE_LOAD;
    for (Bird bird : birds) {
      if (bird != null && bird.isDrivenBy(spring)) {
        load += bird.burden();
      }
    }
    return load;
  }

  private int heldByAll() {
    int held = 0;
    for (Spring spring : springs) {
      if (spring != null) {
        held += spring.held;
      }
    }
    return held;
  }

  private boolean areAllDown() {
    for (Spring spring : springs) {
      if (spring != null && !spring.isBraked && spring.held > 0) {
        return false;
      }
    }
    return true;
  }

  private void rememberAll() {
    for (Spring spring : springs) {
      if (spring != null) {
        spring.remember();
      }
    }
    for (Bird bird : birds) {
      if (bird != null) {
        bird.remember();
      }
    }
    songs.remember();
  }

  private void recallAll() {
    for (Spring spring : springs) {
      if (spring != null) {
        spring.recall();
      }
    }
    for (Bird bird : birds) {
      if (bird != null) {
        bird.recall();
      }
    }
    songs.recall();
  }

  private long mixBird(long start, int number) {
    long d = start;
    for (int what = 0; what < BIRD_ANSWERS; what++) {
      d = mix(d, bird(number, what));
    }
    Bird told = birdAt(number);
    if (told != null) {
      for (int note : told.notes) {
        d = mix(d, note);
      }
    }
    for (int cam = 0; cam < CAMS; cam++) {
      d = mix(d, lift(number, cam, -1));
    }
    return d;
  }

  // ---- numbers and rows

  private static long mix(long d, int x) {
    return d * DIGEST_FACTOR + x;
  }

  private static int pairBit(int a, int b) {
    return 1 << (Math.min(a, b) * MOST_SPRINGS + Math.max(a, b));
  }

  private static boolean isIn(int number, int least, int most) {
    return number >= least && number <= most;
  }

  private static int remainder(int number, int divisor) {
    return divisor > 0 ? number % divisor : 0;
  }

  private static int at(int[] row, int index) {
    return index >= 0 && index < row.length ? row[index] : 0;
  }

  private static void put(int[] row, int index, int value) {
    if (index >= 0 && index < row.length) {
      row[index] = value;
    }
  }
}
