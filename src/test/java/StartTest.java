/** Promise 1: construction and the starting state. */
public final class StartTest {
  public static void main(String[] args) {
    Check.sentence("creates an object whose state has `cur`, `accLen` and `accRule` all equal to 0",
        () -> Check.dueState("new", MaxMunch::new, State.RESET));
    Check.sentence("This is the reset state: no characters counted and no accept.",
        StartTest::nothingCountedNothingAccepted);
    Check.sentence("`stuck()` answers -1.",
        () -> Check.due("new: stuck()", new MaxMunch().stuck(), -1));
    Check.sentence("`emit()` answers `0L`.",
        () -> Check.due("new: emit()", new MaxMunch().emit(), 0L));
    Check.sentence("`skip()` answers -1.",
        () -> Check.due("new: skip()", new MaxMunch().skip(), -1));
    Check.sentence("`step(rule)` answers 1.",
        StartTest::firstStepAnswersOne);
    Check.sentence("Every object has its own state.",
        StartTest::statesAreApart);
    Check.sentence("Calls on one object never affect another.",
        StartTest::callsDoNotReachOthers);
    Check.sentence("Only `step`, `emit` and `skip` change the state.",
        StartTest::onlyThreeCallsChange);
    Check.sentence("`stuck` never does.",
        StartTest::stuckNeverChanges);
    Check.end();
  }

  private static void nothingCountedNothingAccepted() {
    Check.dueAsNew("new", MaxMunch::new);
  }

  private static void firstStepAnswersOne() {
    for (int rule : State.RULES) {
      Check.due("new: step(" + rule + ")", new MaxMunch().step(rule), 1);
    }
  }

  private static void statesAreApart() {
    MaxMunch full = new State(5, 1, 10).made();
    MaxMunch half = new State(-1, 4, 5).made();
    MaxMunch none = new MaxMunch();
    Check.due("full: stuck()", full.stuck(), 9);
    Check.due("half: stuck()", half.stuck(), 1);
    Check.due("none: stuck()", none.stuck(), -1);
    Check.due("full: step(0)", full.step(0), -1);
    Check.due("half: step(0)", half.step(0), 6);
    Check.due("none: step(0)", none.step(0), 1);
    Check.due("full: emit()", full.emit(), (5L << 32) | 1);
    Check.due("half: emit()", half.emit(), (65535L << 32) | 4);
    Check.due("none: emit()", none.emit(), 0L);
  }

  private static void callsDoNotReachOthers() {
    for (State state : State.all()) {
      Check.dueState(state + ", every call on another object", () -> {
        MaxMunch before = new MaxMunch();
        MaxMunch x = state.made();
        useAll(before);
        useAll(new MaxMunch());
        return x;
      }, state);
    }
  }

  private static void useAll(MaxMunch other) {
    other.step(3);
    other.stuck();
    other.emit();
    other.step(4);
    other.skip();
    for (int i = 0; i < 11; i++) {
      other.step(8);
    }
  }

  private static void onlyThreeCallsChange() {
    for (State state : State.all()) {
      Check.dueState(state + ", calls that aren't step, emit or skip", () -> {
        MaxMunch x = state.made();
        new MaxMunch();
        x.stuck();
        x.toString();
        x.hashCode();
        x.equals(new MaxMunch());
        return x;
      }, state);
    }
  }

  private static void stuckNeverChanges() {
    for (State state : State.all()) {
      Check.dueState(state + ", stuck()", () -> {
        MaxMunch x = state.made();
        x.stuck();
        return x;
      }, state);
    }
  }
}
