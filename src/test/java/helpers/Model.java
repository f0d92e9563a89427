import java.math.BigInteger;
import java.util.ArrayList;
import java.util.HashSet;
import java.util.List;
import java.util.Map;
import java.util.Set;
import java.util.TreeMap;
import java.util.TreeSet;

/** The document a second time, said as plainly as can be: slow, and on the Java library. */
final class Model {
  private static final class Spring {
    int strength;
    int held;
    int shaft;
    int speed;
    boolean braked;
  }

  private static final class Bird {
    int spring;
    int weight;
    int n;
    int p;
    int q;
    int from;
    int gone;
    boolean engaged = true;
    int sounded;
    final Set<Integer> pins = new TreeSet<>();
    final int[] notes = {60, 62, 64, 66, 68, 70};
    final List<TreeMap<Integer, Integer>> cams = new ArrayList<>();
  }

  private final List<Spring> springs = new ArrayList<>();
  private final List<Bird> birds = new ArrayList<>();
  private final Set<List<Integer>> pairs = new HashSet<>();
  private final List<int[]> kept = new ArrayList<>();
  private int all;
  private int tick;

  private Model copy() {
    Model m = new Model();
    for (Spring s : springs) {
      Spring t = new Spring();
      t.strength = s.strength;
      t.held = s.held;
      t.shaft = s.shaft;
      t.speed = s.speed;
      t.braked = s.braked;
      m.springs.add(t);
    }
    for (Bird b : birds) {
      Bird c = new Bird();
      c.spring = b.spring;
      c.weight = b.weight;
      c.n = b.n;
      c.p = b.p;
      c.q = b.q;
      c.from = b.from;
      c.gone = b.gone;
      c.engaged = b.engaged;
      c.sounded = b.sounded;
      c.pins.addAll(b.pins);
      c.cams.addAll(b.cams);
      m.birds.add(c);
    }
    m.pairs.addAll(pairs);
    m.tick = tick;
    return m;
  }

  private static void index(boolean isFine) {
    if (!isFine) {
      throw new IndexOutOfBoundsException();
    }
  }

  private static void argument(boolean isFine) {
    if (!isFine) {
      throw new IllegalArgumentException();
    }
  }

  private static void state(boolean isFine) {
    if (!isFine) {
      throw new IllegalStateException();
    }
  }

  private boolean hasSpring(int a) {
    return 0 <= a && a < springs.size();
  }

  private boolean hasBird(int a) {
    return 0 <= a && a < birds.size();
  }

  int addSpring(int strength) {
    argument(1 <= strength && strength <= 50);
    state(springs.size() < 4);
    Spring s = new Spring();
    s.strength = strength;
    springs.add(s);
    return springs.size() - 1;
  }

  int wind(int spring, int turns) {
    index(hasSpring(spring));
    argument(1 <= turns && turns <= 200000);
    Spring s = springs.get(spring);
    s.held += turns;
    if (s.held > 200000) {
      s.held = 200000;
    }
    return s.held;
  }

  int brake(int spring, boolean isOn) {
    index(hasSpring(spring));
    boolean was = springs.get(spring).braked;
    springs.get(spring).braked = isOn;
    return was ? 1 : 0;
  }

  int couple(int a, int b, boolean areBoth) {
    index(hasSpring(a));
    index(hasSpring(b));
    argument(a != b);
    List<Integer> pair = a < b ? List.of(a, b) : List.of(b, a);
    if (areBoth) {
      pairs.add(pair);
    } else {
      pairs.remove(pair);
    }
    return pairs.size();
  }

  private int load(int spring) {
    int load = 10;
    for (Bird b : birds) {
      if (b.spring == spring && b.engaged) {
        int lifts = 0;
        for (int cam = 0; cam < 3; cam++) {
          lifts += liftAt(b, cam, b.gone % b.n);
        }
        load += b.weight + lifts / 5;
      }
    }
    return load;
  }

  int spring(int spring, int what) {
    index(hasSpring(spring));
    index(0 <= what && what <= 6);
    Spring s = springs.get(spring);
    int engaged = 0;
    for (Bird b : birds) {
      engaged += b.spring == spring && b.engaged ? 1 : 0;
    }
    return new int[] {
      s.strength, s.held, s.shaft, s.speed, s.braked ? 1 : 0, engaged, load(spring)
    }[what];
  }

  int addBird(int spring, int weight, int places, int p, int q) {
    index(hasSpring(spring));
    argument(0 <= weight && weight <= 20);
    argument(8 <= places && places <= 96);
    argument(1 <= p && p <= 12);
    argument(1 <= q && q <= 12);
    state(birds.size() < 8);
    Bird b = new Bird();
    b.spring = spring;
    b.weight = weight;
    b.n = places;
    b.p = p;
    b.q = q;
    b.from = springs.get(spring).shaft;
    for (int cam = 0; cam < 3; cam++) {
      b.cams.add(new TreeMap<>());
    }
    birds.add(b);
    return birds.size() - 1;
  }

  int engage(int bird, boolean isOn) {
    index(hasBird(bird));
    Bird b = birds.get(bird);
    if (b.engaged == isOn) {
      return isOn ? 1 : 0;
    }
    b.engaged = isOn;
    if (isOn) {
      b.gone = 0;
      b.from = springs.get(b.spring).shaft;
    }
    return isOn ? 0 : 1;
  }

  int pin(int bird, int place, int lever) {
    index(hasBird(bird));
    Bird b = birds.get(bird);
    argument(0 <= place && place < b.n);
    argument(0 <= lever && lever < 6);
    if (!b.pins.remove(place * 6 + lever)) {
      state(b.pins.size() < 24);
      b.pins.add(place * 6 + lever);
    }
    return b.pins.size();
  }

  int tune(int bird, int lever, int note) {
    index(hasBird(bird));
    index(0 <= lever && lever < 6);
    argument(0 <= note && note <= 87);
    int before = birds.get(bird).notes[lever];
    birds.get(bird).notes[lever] = note;
    return before;
  }

  int point(int bird, int cam, int place, int lift) {
    index(hasBird(bird));
    index(0 <= cam && cam < 3);
    Bird b = birds.get(bird);
    argument(0 <= place && place < b.n);
    argument(-1 <= lift && lift <= 100);
    TreeMap<Integer, Integer> points = b.cams.get(cam);
    if (lift == -1) {
      state(points.containsKey(place));
      points.remove(place);
    } else {
      state(points.containsKey(place) || points.size() < 8);
      points.put(place, lift);
    }
    return points.size();
  }

  int bird(int bird, int what) {
    index(hasBird(bird));
    index(0 <= what && what <= 9);
    Bird b = birds.get(bird);
    return new int[] {
      b.spring, b.weight, b.n, b.p, b.q, b.gone % b.n, b.engaged ? 1 : 0, b.pins.size(), b.gone,
      b.sounded
    }[what];
  }

  private static int liftAt(Bird bird, int cam, int x) {
    TreeMap<Integer, Integer> points = bird.cams.get(cam);
    if (points.isEmpty()) {
      return 0;
    }
    if (points.size() == 1) {
      return points.firstEntry().getValue();
    }
    Map.Entry<Integer, Integer> last = points.floorEntry(x);
    int a = last == null ? points.lastKey() - bird.n : last.getKey();
    int u = last == null ? points.lastEntry().getValue() : last.getValue();
    Map.Entry<Integer, Integer> next = points.higherEntry(x);
    int b = next == null ? points.firstKey() + bird.n : next.getKey();
    int v = next == null ? points.firstEntry().getValue() : next.getValue();
    int over = (v - u) * (x - a);
    int under = b - a;
    int cut = over / under;
    return u + (over < 0 && over % under != 0 ? cut - 1 : cut);
  }

  int lift(int bird, int cam, int place) {
    index(hasBird(bird));
    index(0 <= cam && cam < 3);
    Bird b = birds.get(bird);
    argument(-1 <= place && place < b.n);
    return liftAt(b, cam, place == -1 ? b.gone % b.n : place);
  }

  private int oneTick() {
    tick++;
    for (int a = 0; a < 4; a++) {
      for (int b = 0; b < 4; b++) {
        if (pairs.contains(List.of(a, b))) {
          int d = (springs.get(a).held - springs.get(b).held) / 10;
          springs.get(a).held -= d;
          springs.get(b).held += d;
        }
      }
    }
    int sounded = 0;
    for (int k = 0; k < springs.size(); k++) {
      Spring s = springs.get(k);
      s.speed = 0;
      if (!s.braked && s.held != 0) {
        int speed = s.strength * s.held / (200 * load(k));
        speed = speed < 1 ? 1 : speed;
        speed = speed > 400 ? 400 : speed;
        speed = speed > s.held ? s.held : speed;
        s.speed = speed;
        s.shaft += speed;
        s.held -= speed;
        for (int bird = 0; bird < birds.size(); bird++) {
          if (birds.get(bird).spring == k && birds.get(bird).engaged) {
            sounded += oneBird(bird, s);
          }
        }
      }
    }
    return sounded;
  }

  private int oneBird(int bird, Spring s) {
    Bird b = birds.get(bird);
    int old = b.gone;
    b.gone = BigInteger.valueOf(s.shaft - b.from).multiply(BigInteger.valueOf(b.p))
        .multiply(BigInteger.valueOf(b.n)).divide(BigInteger.valueOf(1000L * b.q)).intValueExact();
    int sounded = 0;
    for (int way = old + 1; way <= b.gone; way++) {
      if (way > b.gone - b.n) {
        for (int lever = 0; lever < 6; lever++) {
          if (b.pins.contains(way % b.n * 6 + lever)) {
            sounded++;
            b.sounded++;
            all++;
            s.held = s.held < 10 ? 0 : s.held - 10;
            if (kept.size() < 250) {
              kept.add(new int[] {tick, bird, lever, b.notes[lever]});
            }
          }
        }
      }
    }
    return sounded;
  }

  int run(int ticks) {
    argument(1 <= ticks && ticks <= 500);
    int sounded = 0;
    for (int k = 0; k < ticks; k++) {
      sounded += oneTick();
    }
    return sounded;
  }

  int count(int what) {
    index(0 <= what && what <= 5);
    int held = 0;
    for (Spring s : springs) {
      held += s.held;
    }
    return new int[] {tick, springs.size(), birds.size(), pairs.size(), all, held}[what];
  }

  int sung(int index, int what) {
    index(0 <= index && index < kept.size());
    index(0 <= what && what <= 3);
    return kept.get(index)[what];
  }

  int chord(int at) {
    argument(at >= 0);
    Set<Integer> notes = new HashSet<>();
    for (int[] note : kept) {
      if (note[0] == at) {
        notes.add(note[3]);
      }
    }
    return notes.size();
  }

  int longest() {
    int most = 0;
    for (int from = 0; from < kept.size(); from++) {
      int to = from;
      while (to < kept.size() && kept.get(to)[1] == kept.get(from)[1]) {
        to++;
      }
      most = Math.max(most, to - from);
    }
    return most;
  }

  int emptySongs() {
    int was = kept.size();
    kept.clear();
    all = 0;
    return was;
  }

  private boolean isDown() {
    return springs.stream().allMatch(s -> s.braked || s.held == 0);
  }

  int runsDown(int most) {
    argument(1 <= most && most <= 2000);
    Model ahead = copy();
    for (int k = 0; k < most; k++) {
      if (ahead.isDown()) {
        return ahead.tick;
      }
      ahead.oneTick();
    }
    return ahead.isDown() ? ahead.tick : -1;
  }

  double tension() {
    return springs.isEmpty() ? 0 : (double) count(5) / (1000 * springs.size());
  }

  long digest() {
    List<Integer> told = new ArrayList<>();
    for (int what = 0; what < 6; what++) {
      told.add(count(what));
    }
    for (int k = 0; k < springs.size(); k++) {
      for (int what = 0; what < 7; what++) {
        told.add(spring(k, what));
      }
    }
    for (int k = 0; k < birds.size(); k++) {
      for (int what = 0; what < 10; what++) {
        told.add(bird(k, what));
      }
      for (int note : birds.get(k).notes) {
        told.add(note);
      }
      for (int cam = 0; cam < 3; cam++) {
        told.add(lift(k, cam, -1));
      }
    }
    for (int[] note : kept) {
      for (int x : note) {
        told.add(x);
      }
    }
    long d = 449;
    for (int x : told) {
      d = d * 31 + x;
    }
    return d;
  }
}
