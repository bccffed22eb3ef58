import java.util.function.Supplier;

/** What the tests share: it counts and prints the answers that are not the due ones. */
final class Check {
  // A broken class can fail a million answers; the first ones of a sentence tell enough.
  private static final int MOST_PRINTED = 5;

  private static String words = "";
  private static long checked = 0;
  private static long wrong = 0;
  private static long sentences = 0;
  private static long brokenSentences = 0;

  private Check() {}

  /** Runs the test of one sentence of the document; a test that looks at nothing is broken too. */
  static void sentence(String sentence, Runnable test) {
    words = sentence;
    checked = 0;
    wrong = 0;
    test.run();
    sentences++;
    if (checked == 0) {
      System.out.println("no answer looked at for: " + words);
    }
    if (wrong != 0) {
      System.out.println(wrong + " of " + checked + " answers not as due for: " + words);
    }
    if (checked == 0 || wrong != 0) {
      brokenSentences++;
    }
  }

  static void due(String call, long got, long want) {
    checked++;
    if (got != want) {
      wrong++;
      if (wrong <= MOST_PRINTED) {
        System.out.println(call + " answered " + got + ", due is " + want);
      }
    }
  }

  static void due(String what, boolean holds) {
    due(what, holds ? 1 : 0, 1);
  }

  /**
   * Looks at the whole state of an object. Three of the four calls change it, so that each is
   * asked of an object of its own, made the same way.
   */
  static void dueState(String when, Supplier<MaxMunch> made, State state) {
    due(when + ": stuck()", made.get().stuck(), state.pushBack());
    due(when + ": emit()", made.get().emit(), state.packed());
    due(when + ": skip()", made.get().skip(), state.skipped());
    due(when + ": step(0)", made.get().step(0), state.nextCount());
  }

  /** Looks for whatever would tell the object from a newly constructed one. */
  static void dueAsNew(String when, Supplier<MaxMunch> made) {
    dueState(when, made, State.RESET);
    dueWholeCount(when + ", no accept", made.get(), 0, -1, 0L);
    dueWholeCount(when + ", accept first", made.get(), 6, 9, 25769803777L);
  }

  /** Counts from the reset state until a step is refused; only the first step has a rule. */
  private static void dueWholeCount(
      String when, MaxMunch x, int firstRule, int pushBack, long packed) {
    for (int count = 1; count <= 10; count++) {
      due(when + ": step no. " + count, x.step(count == 1 ? firstRule : 0), count);
    }
    due(when + ": step no. 11", x.step(0), -1);
    due(when + ", full: stuck()", x.stuck(), pushBack);
    due(when + ", full: emit()", x.emit(), packed);
  }

  /** Ends the test: exit code 1 if one sentence is broken, or if none was looked at. */
  static void end() {
    System.out.println(sentences + " sentences, " + brokenSentences + " broken");
    if (brokenSentences != 0 || sentences == 0) {
      System.exit(1);
    }
  }
}
