/** Promise 4: emit answers the packed accept and resets. */
public final class EmitTest {
  public static void main(String[] args) {
    theAnswer();
    theReset();
    Check.sentence("**Example.** Starting from the reset state:",
        EmitTest::example);
    Check.end();
  }

  private static void theAnswer() {
    Check.sentence("`((long) (accRule & 0xFFFF)) << 32 | accLen`",
        EmitTest::packsRuleAndLength);
    Check.sentence("The low 32 bits of the answer hold `accLen`.",
        EmitTest::lowBitsHoldTheLength);
    Check.sentence("The next 16 bits (bits 32 to 47) hold the low 16 bits of `accRule`, "
            + "taken without sign.",
        EmitTest::nextBitsHoldTheRule);
    Check.sentence("All higher bits are 0.",
        EmitTest::higherBitsAreZero);
    Check.sentence("The answer is therefore never negative.",
        EmitTest::neverNegative);
    Check.sentence("If there was no accept since the last reset, "
            + "`accRule` and `accLen` are both 0, so the answer is `0L`.",
        EmitTest::withoutAccept);
    Check.sentence("The upper part is between 1 and 65535.",
        EmitTest::upperPartEdges);
    Check.sentence("The lower part is between 1 and 10.",
        EmitTest::lowerPartEdges);
    Check.sentence("A negative `accRule` shows up as its unsigned 16-bit form.",
        EmitTest::everyNegativeRule);
    Check.sentence("`accRule` = -1 gives an upper part of 65535 (`0xFFFF`)",
        () -> Check.due("step(-1), emit()", accepted(-1).emit(), 281470681743361L));
    Check.sentence("`accRule` = -32768 gives 32768 (`0x8000`)",
        () -> Check.due("step(-32768), emit()", accepted(-32768).emit(), 140737488355329L));
    Check.sentence("The value of `cur` does not appear in the answer.",
        EmitTest::countDoesNotAppear);
  }

  private static void theReset() {
    Check.sentence("Then, in every case, `emit` sets `cur`, `accLen` and `accRule` to 0.",
        EmitTest::resetsInEveryCase);
    Check.sentence("This includes the case with no accept",
        EmitTest::resetsWithoutAccept);
    Check.sentence("and the case where `cur` is 10",
        EmitTest::resetsWhenFull);
    Check.sentence("Afterwards the object is in the same state as a newly constructed one.",
        EmitTest::asNewAfterwards);
  }

  private static MaxMunch accepted(int rule) {
    return new State(rule, 1, 1).made();
  }

  private static MaxMunch emitted(State state) {
    MaxMunch x = state.made();
    x.emit();
    return x;
  }

  private static void packsRuleAndLength() {
    for (State state : State.all()) {
      Check.due(state + ": emit()", state.made().emit(), state.packed());
    }
  }

  private static void lowBitsHoldTheLength() {
    for (State state : State.all()) {
      Check.due(state + ": the low 32 bits", state.made().emit() & 0xFFFFFFFFL, state.length());
    }
  }

  private static void nextBitsHoldTheRule() {
    for (int rule = 1; rule <= 65535; rule++) {
      Check.due("step(" + rule + "): bits 32 to 47", accepted(rule).emit() >>> 32 & 0xFFFF, rule);
    }
  }

  private static void higherBitsAreZero() {
    for (int low = 0; low <= 65535; low++) {
      for (int high : new int[] {0, 1, 0x7FFF, 0x8000, 0xFFFF}) {
        int rule = high * 65536 + low;
        Check.due("step(" + rule + "): bits 48 to 63", accepted(rule).emit() >>> 48, 0);
      }
    }
  }

  private static void neverNegative() {
    for (int rule = -32768; rule <= 32767; rule++) {
      Check.due("step(" + rule + "): emit() >= 0", accepted(rule).emit() >= 0);
    }
    for (State state : State.all()) {
      Check.due(state + ": emit() >= 0", state.made().emit() >= 0);
    }
  }

  private static void withoutAccept() {
    for (State state : State.withoutAccept()) {
      Check.due(state + ": emit()", state.made().emit(), 0L);
    }
    // An accept before the reset is none since it.
    for (State state : State.withAccept()) {
      MaxMunch x = emitted(state);
      Check.due(state + ", emit(), emit()", x.emit(), 0L);
      x.step(65536);
      Check.due(state + ", emit() twice, step(65536), emit()", x.emit(), 0L);
    }
  }

  private static void upperPartEdges() {
    Check.due("rule 1: upper part", accepted(1).emit() >> 32, 1);
    Check.due("rule 32767: upper part", accepted(32767).emit() >> 32, 32767);
    Check.due("rule 65535: upper part", accepted(65535).emit() >> 32, 65535);
    for (State state : State.withAccept()) {
      long upper = state.made().emit() >> 32;
      Check.due(state + ": 1 <= " + upper + " <= 65535", 1 <= upper && upper <= 65535);
    }
  }

  private static void lowerPartEdges() {
    Check.due("accept at 1: lower part", (int) new State(3, 1, 10).made().emit(), 1);
    Check.due("accept at 10: lower part", (int) new State(3, 10, 10).made().emit(), 10);
    for (State state : State.withAccept()) {
      int lower = (int) state.made().emit();
      Check.due(state + ": 1 <= " + lower + " <= 10", 1 <= lower && lower <= 10);
    }
  }

  private static void everyNegativeRule() {
    for (int rule = -32768; rule <= -1; rule++) {
      Check.due("step(" + rule + "): upper part", accepted(rule).emit() >> 32, rule + 65536);
    }
  }

  private static void countDoesNotAppear() {
    for (int rule : State.ACCEPTS) {
      for (int length = 1; length <= 10; length++) {
        long atOnce = new State(rule, length, length).made().emit();
        for (int count = length + 1; count <= 10; count++) {
          State later = new State(rule, length, count);
          Check.due(later + ": emit()", later.made().emit(), atOnce);
        }
      }
    }
  }

  private static void resetsInEveryCase() {
    for (State state : State.all()) {
      Check.dueState(state + ", emit()", () -> emitted(state), State.RESET);
    }
  }

  private static void resetsWithoutAccept() {
    for (State state : State.withoutAccept()) {
      Check.due(state + ", emit(), step(0)", emitted(state).step(0), 1);
      Check.due(state + ", emit(), step(4)", emitted(state).step(4), 1);
    }
  }

  private static void resetsWhenFull() {
    for (State state : State.full()) {
      Check.due(state + ", emit(), step(4)", emitted(state).step(4), 1);
      MaxMunch refused = state.made();
      refused.step(4);
      refused.emit();
      Check.due(state + ", refused step, emit(), step(4)", refused.step(4), 1);
    }
  }

  private static void asNewAfterwards() {
    for (State state : State.all()) {
      Check.dueAsNew(state + ", emit()", () -> emitted(state));
    }
  }

  private static void example() {
    MaxMunch x = new MaxMunch();
    Check.due("step(0)", x.step(0), 1);
    Check.due("step(7)", x.step(7), 2);
    Check.due("step(0)", x.step(0), 3);
    Check.due("stuck()", x.stuck(), 1);
    Check.due("emit()", x.emit(), 30064771074L);
    Check.due("stuck()", x.stuck(), -1);
  }
}
