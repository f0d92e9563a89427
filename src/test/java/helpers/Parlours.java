/** Parlours that several tests begin with. */
final class Parlours {
  private Parlours() {
  }

  static BirdParlour empty() {
    return new BirdParlour();
  }

  /** Springs of the strength 10 that hold nothing. */
  static BirdParlour withSprings(int springs) {
    BirdParlour x = new BirdParlour();
    for (int k = 0; k < springs; k++) {
      x.addSpring(10);
    }
    return x;
  }

  /** One spring that holds nothing, and so many birds of 8 places on it. */
  static BirdParlour withBirds(int birds) {
    BirdParlour x = withSprings(1);
    for (int k = 0; k < birds; k++) {
      x.addBird(0, 0, 8, 1, 1);
    }
    return x;
  }

  /** One bird, with so many pins, from the place 0 on. */
  static BirdParlour withPins(int pins) {
    BirdParlour x = withBirds(1);
    for (int k = 0; k < pins; k++) {
      x.pin(0, k / 6, k % 6);
    }
    return x;
  }

  /** One bird of 12 places, and so many points on its cam 1, from the place 0 on. */
  static BirdParlour withPoints(int points) {
    BirdParlour x = withSprings(1);
    x.addBird(0, 0, 12, 1, 1);
    for (int k = 0; k < points; k++) {
      x.point(0, 1, k, 10 * k);
    }
    return x;
  }

  /** A spring that goes 400 thousandths a tick for long, and a bird of n places, p and q. */
  static BirdParlour fast(int n, int p, int q) {
    BirdParlour x = new BirdParlour();
    x.addSpring(50);
    x.wind(0, 200000);
    x.addBird(0, 0, n, p, q);
    return x;
  }

  /** A spring that goes 1 thousandth a tick, and a bird of n places, p and q. */
  static BirdParlour slow(int n, int p, int q) {
    BirdParlour x = new BirdParlour();
    x.addSpring(1);
    x.wind(0, 2000);
    x.addBird(0, 0, n, p, q);
    return x;
  }

  /** Just a round each tick, with two birds of 20 and 5 pins: 25 notes a tick. */
  static BirdParlour loud() {
    BirdParlour x = fast(8, 5, 2);
    x.addBird(0, 0, 8, 5, 2);
    for (int k = 0; k < 20; k++) {
      x.pin(0, k % 8, k / 8);
    }
    for (int k = 0; k < 5; k++) {
      x.pin(1, k, 0);
    }
    return x;
  }

  /** Some of everything, and nothing full, in the midst of its way. */
  static BirdParlour lively() {
    BirdParlour x = new BirdParlour();
    x.addSpring(50);
    x.addSpring(7);
    x.addSpring(20);
    x.wind(0, 150000);
    x.wind(1, 9000);
    x.wind(2, 30000);
    x.couple(0, 1, true);
    x.addBird(0, 2, 12, 5, 3);
    x.addBird(1, 0, 11, 12, 1);
    x.addBird(0, 1, 9, 2, 1);
    for (int k = 0; k < 7; k++) {
      x.pin(0, k, k % 6);
      x.pin(1, k + 2, 5);
      x.point(0, 1, k, 10 * k);
    }
    x.point(1, 0, 3, 50);
    x.pin(2, 1, 1);
    x.run(30);
    x.engage(2, false);
    x.brake(2, true);
    x.run(9);
    return x;
  }

  /** All that can be full is full: springs, what they hold, birds, pins, points, kept notes. */
  static BirdParlour full() {
    BirdParlour x = lively();
    x.addSpring(3);
    for (int k = 3; k < 8; k++) {
      x.addBird(k % 4, 20, 8, 5, 2);
    }
    for (int k = 0; k < 17; k++) {
      x.pin(0, k % 12, (k + 3 - k / 12) % 6);
    }
    x.point(0, 1, 7, 99);
    x.run(100);
    for (int k = 0; k < 4; k++) {
      x.wind(k, 200000);
    }
    return x;
  }
}
