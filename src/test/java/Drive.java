/**
 * A RingDrive that counts its calls. The document promises nothing behind an object's 512th call, so a test
 * that went on with the same object would ask for what is free: it is told as wrong.
 */
final class Drive {
  static final int CALLS_MOST = 512;

  private final RingDrive real = new RingDrive();
  private int calls;

  private RingDrive next() {
    calls++;
    if (calls == CALLS_MOST + 1) {
      Check.due("a test that keeps to " + CALLS_MOST + " calls of one object", 1, 0);
      new Throwable().printStackTrace(System.out);
    }
    return real;
  }

  /** How many calls more the object is good for. */
  int left() {
    return CALLS_MOST - calls;
  }

  int feed(int a, int b, int c, int d, int e) {
    return next().feed(a, b, c, d, e);
  }

  int open(int c, int n) {
    return next().open(c, n);
  }

  int write(int c, int n) {
    return next().write(c, n);
  }

  int close(int c) {
    return next().close(c);
  }

  int read(int c, int n) {
    return next().read(c, n);
  }

  int out(int i) {
    return next().out(i);
  }

  int look(int what) {
    return next().look(what);
  }

  int bits(int track, int at) {
    return next().bits(track, at);
  }

  boolean turn(int track, int at, int mask) {
    return next().turn(track, at, mask);
  }

  void protect(boolean is) {
    next().protect(is);
  }

  void power() {
    next().power();
  }

  int memory(int at) {
    return next().memory(at);
  }
}
