import java.util.function.Consumer;

/** Promise 5: skip answers the accepted length and resets. */
public final class SkipTest {
  public static void main(String[] args) {
    theAnswer();
    theReset();
    rightAfter("skip", MaxMunch::skip);
    rightAfter("emit", MaxMunch::emit);
    Check.end();
  }

  private static void theAnswer() {
    Check.sentence("If `accRule == 0`, it answers -1.",
        SkipTest::withoutAccept);
    Check.sentence("Otherwise it answers `accLen`, which is between 1 and 10.",
        SkipTest::answersTheLength);
    Check.sentence("The rule itself is not part of the answer.",
        SkipTest::ruleDoesNotAppear);
  }

  private static void theReset() {
    Check.sentence("Then, in every case, `skip` resets exactly as `emit` does.",
        SkipTest::resetsAsEmitDoes);
    Check.sentence("It sets `cur`, `accLen` and `accRule` to 0",
        SkipTest::setsAllToZero);
    Check.sentence("whether or not there was an accept",
        SkipTest::resetsWithAndWithoutAccept);
    Check.sentence("and whatever `cur` was",
        SkipTest::resetsAtEveryCount);
    Check.sentence("Afterwards the object is in the same state as a newly constructed one.",
        SkipTest::asNewAfterwards);
  }

  private static void rightAfter(String name, Consumer<MaxMunch> call) {
    String when = "Right after `skip` (or `emit`): (after " + name + ") ";
    Check.sentence(when + "`stuck()` answers -1.", () -> {
      for (State state : State.all()) {
        Check.due(state + ", " + name + "(), stuck()", called(state, call).stuck(), -1);
      }
    });
    Check.sentence(when + "`emit()` answers `0L`.", () -> {
      for (State state : State.all()) {
        Check.due(state + ", " + name + "(), emit()", called(state, call).emit(), 0L);
      }
    });
    Check.sentence(when + "`skip()` answers -1.", () -> {
      for (State state : State.all()) {
        Check.due(state + ", " + name + "(), skip()", called(state, call).skip(), -1);
      }
    });
    Check.sentence(when + "`step(rule)` answers 1.", () -> {
      for (State state : State.all()) {
        for (int rule : State.RULES) {
          Check.due(state + ", " + name + "(), step(" + rule + ")",
              called(state, call).step(rule), 1);
        }
      }
    });
  }

  private static MaxMunch called(State state, Consumer<MaxMunch> call) {
    MaxMunch x = state.made();
    call.accept(x);
    return x;
  }

  private static MaxMunch skipped(State state) {
    return called(state, MaxMunch::skip);
  }

  private static void withoutAccept() {
    for (State state : State.withoutAccept()) {
      Check.due(state + ": skip()", state.made().skip(), -1);
    }
    for (int rule : new int[] {65536, -65536, Integer.MIN_VALUE}) {
      MaxMunch x = new MaxMunch();
      x.step(rule);
      Check.due("step(" + rule + "), skip()", x.skip(), -1);
    }
    // An accept before the reset is none since it.
    for (State state : State.withAccept()) {
      MaxMunch x = skipped(state);
      x.step(0);
      Check.due(state + ", skip(), step(0), skip()", x.skip(), -1);
    }
  }

  private static void answersTheLength() {
    Check.due("accept at 1 of 10: skip()", new State(3, 1, 10).made().skip(), 1);
    Check.due("accept at 10 of 10: skip()", new State(3, 10, 10).made().skip(), 10);
    for (State state : State.withAccept()) {
      Check.due(state + ": skip()", state.made().skip(), state.length());
    }
  }

  private static void ruleDoesNotAppear() {
    for (int rule = -32768; rule <= 32767; rule++) {
      if (rule != 0) {
        Check.due("0, step(" + rule + "), skip()", new State(rule, 2, 2).made().skip(), 2);
      }
    }
  }

  private static void resetsAsEmitDoes() {
    for (State state : State.all()) {
      MaxMunch emitted = called(state, MaxMunch::emit);
      MaxMunch skipped = skipped(state);
      Check.due(state + ", skip(), emit()", skipped.emit(), emitted.emit());
      emitted = called(state, MaxMunch::emit);
      skipped = skipped(state);
      for (int i = 1; i <= 11; i++) {
        int rule = i == 3 ? 8 : 0;
        String when = state + ", skip(), step no. " + i;
        Check.due(when, skipped.step(rule), emitted.step(rule));
        Check.due(when + ", stuck()", skipped.stuck(), emitted.stuck());
      }
      Check.due(state + ", skip(), 11 steps, emit()", skipped.emit(), emitted.emit());
    }
  }

  private static void setsAllToZero() {
    for (State state : State.all()) {
      Check.dueState(state + ", skip()", () -> skipped(state), State.RESET);
    }
  }

  private static void resetsWithAndWithoutAccept() {
    Check.dueState("no accept, skip()", () -> skipped(State.counted(4)), State.RESET);
    Check.dueState("accept, skip()", () -> skipped(new State(6, 4, 4)), State.RESET);
    Check.dueState("negative accept, skip()", () -> skipped(new State(-6, 3, 4)), State.RESET);
  }

  private static void resetsAtEveryCount() {
    for (State state : State.all()) {
      Check.due(state + ", skip(), step(0)", skipped(state).step(0), 1);
    }
    MaxMunch refused = State.counted(10).made();
    refused.step(4);
    refused.skip();
    Check.due("10 counted, refused step, skip(), step(0)", refused.step(0), 1);
  }

  private static void asNewAfterwards() {
    for (State state : State.all()) {
      Check.dueAsNew(state + ", skip()", () -> skipped(state));
    }
  }
}
