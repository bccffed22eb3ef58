/** What the tests share: it counts and prints the answers that are not the due ones. */
final class Check {
  // A broken class can fail a million answers; the first ones tell enough.
  private static final int MOST_PRINTED = 50;

  private static int wrong = 0;
  private static long checked = 0;

  private Check() {}

  static void due(String call, long got, long want) {
    checked++;
    if (got != want) {
      wrong++;
      if (wrong <= MOST_PRINTED) {
        System.out.println(call + " answered " + got + ", due is " + want);
      }
    }
  }

  static void due(String what, boolean holds) {
    due(what, holds ? 1 : 0, 1);
  }

  /** Steps with one rule many times; the object must have room for all of them. */
  static void steps(MaxMunch x, int times, int rule) {
    for (int i = 0; i < times; i++) {
      if (x.step(rule) < 0) {
        due("room for step " + (i + 1) + " of " + times, false);
      }
    }
  }

  /** Looks at everything by which a fresh object can be told; leaves the object reset. */
  static void dueFresh(String when, MaxMunch x) {
    due(when + ": stuck()", x.stuck(), -1);
    due(when + ": step(0)", x.step(0), 1);
    due(when + ": step(0), stuck()", x.stuck(), -1);
    steps(x, 8, 0);
    due(when + ": the tenth step(0)", x.step(0), 10);
    due(when + ": the eleventh step(0)", x.step(0), -1);
    due(when + ": emit() without an accept", x.emit(), 0L);
  }

  /** The packed answer, made by arithmetic so that it doesn't repeat the program's shifts. */
  static long packed(int unsignedRule, int length) {
    return unsignedRule * 4294967296L + length;
  }

  /** Ends the test: exit code 1 if one answer was wrong, or if nothing was looked at. */
  static void end() {
    System.out.println(checked + " answers looked at, " + wrong + " not as due");
    if (wrong != 0 || checked == 0) {
      System.exit(1);
    }
  }
}
