/** Promise 3: stuck tells how much to push back. */
public final class StuckTest {
  public static void main(String[] args) {
    Check.sentence("`cur`, `accLen` and `accRule` are the same before and after the call",
        StuckTest::stateIsTheSame);
    Check.sentence("calling it any number of times has no effect on later answers",
        StuckTest::anyNumberOfTimes);
    Check.sentence("If `accRule == 0` (no accept since the last reset), it answers -1.",
        StuckTest::withoutAccept);
    Check.sentence("This holds whatever `cur` is, including 0 and 10.",
        StuckTest::withoutAcceptAtZeroAndTen);
    Check.sentence("Otherwise it answers `cur - accLen`.",
        StuckTest::countBeyondTheAccept);
    Check.sentence("The answer is between 0 and 9.",
        StuckTest::betweenZeroAndNine);
    Check.sentence("It is 0 when the most recent `step` that changed the state marked an accept.",
        StuckTest::zeroRightAfterAnAccept);
    Check.sentence("It is 9 when the accept came at the first character "
            + "and 10 characters have been counted.",
        StuckTest::nineAtMost);
    Check.sentence("A `step` that answers -1 changes nothing, "
            + "so it does not change what `stuck` answers.",
        StuckTest::refusedStep);
    Check.end();
  }

  private static void stateIsTheSame() {
    for (State state : State.all()) {
      Check.dueState(state + ", stuck()", () -> stuckOften(state, 1), state);
    }
  }

  private static void anyNumberOfTimes() {
    for (State state : State.all()) {
      for (int times : new int[] {2, 10, 11, 300}) {
        Check.dueState(state + ", stuck() " + times + " times",
            () -> stuckOften(state, times), state);
      }
    }
    // Between the calls of a whole run, too.
    MaxMunch x = new MaxMunch();
    for (int count = 1; count <= 10; count++) {
      Check.due("stuck() between: step no. " + count, x.step(count == 2 ? 7 : 0), count);
      Check.due("stuck() at " + count, x.stuck(), count < 2 ? -1 : count - 2);
    }
    Check.due("stuck() between: emit()", x.emit(), (7L << 32) | 2);
  }

  private static MaxMunch stuckOften(State state, int times) {
    MaxMunch x = state.made();
    for (int i = 0; i < times; i++) {
      x.stuck();
    }
    return x;
  }

  private static void withoutAccept() {
    for (State state : State.withoutAccept()) {
      Check.due(state + ": stuck()", state.made().stuck(), -1);
    }
    // An accept before the reset is none since it.
    for (State state : State.withAccept()) {
      MaxMunch x = state.made();
      x.emit();
      x.step(0);
      Check.due(state + ", emit(), step(0), stuck()", x.stuck(), -1);
    }
  }

  private static void withoutAcceptAtZeroAndTen() {
    for (int rule : new int[] {0, 65536, Integer.MIN_VALUE}) {
      MaxMunch x = new MaxMunch();
      Check.due("0 counted: stuck()", x.stuck(), -1);
      for (int count = 1; count <= 10; count++) {
        x.step(rule);
        Check.due(count + " counted with " + rule + ": stuck()", x.stuck(), -1);
      }
    }
  }

  private static void countBeyondTheAccept() {
    for (State state : State.withAccept()) {
      Check.due(state + ": stuck()", state.made().stuck(), state.count() - state.length());
    }
  }

  private static void betweenZeroAndNine() {
    for (State state : State.withAccept()) {
      int answer = state.made().stuck();
      Check.due(state + ": 0 <= " + answer + " <= 9", 0 <= answer && answer <= 9);
    }
  }

  private static void zeroRightAfterAnAccept() {
    for (int rule : State.ACCEPTS) {
      MaxMunch x = new MaxMunch();
      for (int count = 1; count <= 10; count++) {
        x.step(rule);
        Check.due("accept of " + rule + " at " + count + ": stuck()", x.stuck(), 0);
      }
      // Refused steps changed nothing: the most recent one that did is still the accept.
      x.step(0);
      Check.due("accept of " + rule + " at 10, refused step(0): stuck()", x.stuck(), 0);
      x.step(rule);
      Check.due("accept of " + rule + " at 10, refused again: stuck()", x.stuck(), 0);
    }
  }

  private static void nineAtMost() {
    for (int rule : State.ACCEPTS) {
      MaxMunch x = new MaxMunch();
      x.step(rule);
      for (int count = 2; count <= 10; count++) {
        x.step(0);
      }
      Check.due("accept of " + rule + " at 1 of 10: stuck()", x.stuck(), 9);
    }
  }

  private static void refusedStep() {
    for (State state : State.full()) {
      for (int rule : State.RULES) {
        MaxMunch x = state.made();
        Check.due(state + ": step(" + rule + ")", x.step(rule), -1);
        Check.due(state + ", refused step(" + rule + "), stuck()", x.stuck(), state.pushBack());
        x.step(rule);
        Check.due(state + ", refused twice, stuck()", x.stuck(), state.pushBack());
      }
    }
  }
}
