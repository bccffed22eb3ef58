/**
 * All promises at once: every run of calls up to a length, against the rules as they were given.
 * The model keeps the counted rules themselves and reads each answer off them, so that it shares
 * no bookkeeping with the program.
 */
public final class EveryRunTest {
  private static final int[] RULES = {0, 6, -1, 0x10000};
  private static final int CALLS = RULES.length + 3;
  private static final int LENGTH = 6;

  private static final int[] counted = new int[10];
  private static int size;

  public static void main(String[] args) {
    Check.sentence("every run of six calls on a new object", () -> everyRun(0));
    // From here a run reaches the full object, and goes on.
    Check.sentence("every run of six calls with 7 characters counted", () -> everyRun(7));
    Check.end();
  }

  private static void everyRun(int before) {
    long runs = 1;
    for (int i = 0; i < LENGTH; i++) {
      runs *= CALLS;
    }
    for (long run = 0; run < runs; run++) {
      MaxMunch x = new MaxMunch();
      size = 0;
      for (int i = 0; i < before; i++) {
        call(x, 0, "start");
      }
      long rest = run;
      for (int i = 0; i < LENGTH; i++) {
        call(x, (int) (rest % CALLS), "run " + run + " from " + before);
        rest /= CALLS;
      }
    }
  }

  private static void call(MaxMunch x, int which, String where) {
    if (which < RULES.length) {
      Check.due(where + ": step(" + RULES[which] + ")", x.step(RULES[which]), step(RULES[which]));
    } else if (which == RULES.length) {
      Check.due(where + ": stuck()", x.stuck(), accepted() == 0 ? -1 : size - accepted());
    } else if (which == RULES.length + 1) {
      Check.due(where + ": emit()", x.emit(), packed());
      size = 0;
    } else {
      Check.due(where + ": skip()", x.skip(), accepted() == 0 ? -1 : accepted());
      size = 0;
    }
  }

  private static int step(int rule) {
    if (size == counted.length) {
      return -1;
    }
    counted[size++] = Math.floorMod(rule, 65536);
    return size;
  }

  private static int accepted() {
    int length = size;
    while (length > 0 && counted[length - 1] == 0) {
      length--;
    }
    return length;
  }

  private static long packed() {
    int length = accepted();
    return length == 0 ? 0L : counted[length - 1] * 4294967296L + length;
  }
}
