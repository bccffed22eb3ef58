/** Promise 2: step counts one character. */
public final class StepTest {
  public static void main(String[] args) {
    whenFull();
    whenNotFull();
    edgeValues();
    Check.end();
  }

  private static void whenFull() {
    Check.sentence("`step` answers -1 and changes nothing.",
        StepTest::fullRefuses);
    Check.sentence("This holds for every value of `rule`, "
            + "including ones that would otherwise mark an accept.",
        StepTest::fullRefusesEveryRule);
    Check.sentence("`cur`, `accLen` and `accRule` all stay as they were.",
        StepTest::fullKeepsItsState);
    Check.sentence("Every further call to `step` also answers -1 "
            + "until `emit` or `skip` resets the object.",
        StepTest::fullRefusesUntilReset);
  }

  private static void whenNotFull() {
    Check.sentence("**Otherwise (`cur` is 0 to 9).**",
        StepTest::nineStillHasRoom);
    Check.sentence("`cur` grows by one.",
        StepTest::countGrowsByOne);
    Check.sentence("This is the low 16 bits of `rule`, read as a signed 16-bit value, "
            + "exactly as a Java `(short)` cast gives it.",
        StepTest::ruleIsCastToShort);
    Check.sentence("`accRule` becomes `r`, and `accLen` becomes the new value of `cur`.",
        StepTest::acceptIsKept);
    Check.sentence("This replaces any earlier accept since the last reset.",
        StepTest::acceptReplacesEarlier);
    Check.sentence("If `r == 0`, `accRule` and `accLen` stay as they were.",
        StepTest::noAcceptKeepsEarlier);
    Check.sentence("`step` answers the new value of `cur`, which is between 1 and 10.",
        StepTest::answersOneToTen);
  }

  private static void edgeValues() {
    Check.sentence("Only the low 16 bits of `rule` matter.",
        StepTest::highBitsDoNotMatter);
    Check.sentence("or any other value whose low 16 bits are all zero gives `r == 0`.",
        StepTest::lowBitsZero);
    Check.sentence("Such a call counts the character but marks no accept.",
        StepTest::lowBitsZeroCounts);
    Check.sentence("`rule` = `0x10005` gives `r == 5`.",
        () -> dueRule(0x10005, 5));
    Check.sentence("`rule` = 65535 (`0xFFFF`) and `rule` = -1 both give `r == -1`.",
        StepTest::minusOneTwice);
    Check.sentence("`rule` = 32768 (`0x8000`) gives `r == -32768`.",
        StepTest::leastRule);
    Check.sentence("`rule` = `Integer.MAX_VALUE` gives `r == -1`.",
        () -> dueRule(Integer.MAX_VALUE, 65535));
    Check.sentence("Negative values of `r` count as accepts exactly like positive ones.",
        StepTest::everyNegativeIsAnAccept);
    Check.sentence("Only `r == 0` means \"no accept\".",
        StepTest::onlyZeroIsNoAccept);
    Check.sentence("When there is an accept, `accLen` is always between 1 and `cur`.",
        StepTest::acceptLiesWithinTheCount);
  }

  private static void fullRefuses() {
    for (State state : State.full()) {
      MaxMunch x = state.made();
      Check.due(state + ": step(3)", x.step(3), -1);
      Check.due(state + ": step(0)", x.step(0), -1);
      Check.due(state + ", refused twice: stuck()", x.stuck(), state.pushBack());
      Check.due(state + ", refused twice: emit()", x.emit(), state.packed());
    }
  }

  private static void fullRefusesEveryRule() {
    for (int rule : State.RULES) {
      for (State state : State.full()) {
        Check.due(state + ": step(" + rule + ")", state.made().step(rule), -1);
      }
    }
    State state = new State(5, 2, 10);
    MaxMunch x = state.made();
    Check.due("full: rules that aren't refused", rulesNotRefused(x), 0);
    Check.due("full, every rule refused: stuck()", x.stuck(), state.pushBack());
    Check.due("full, every rule refused: emit()", x.emit(), state.packed());
  }

  /** Every int is tried: too many to look at each answer by itself. */
  private static long rulesNotRefused(MaxMunch full) {
    long notRefused = 0;
    for (long rule = Integer.MIN_VALUE; rule <= Integer.MAX_VALUE; rule++) {
      if (full.step((int) rule) != -1) {
        notRefused++;
      }
    }
    return notRefused;
  }

  private static void fullKeepsItsState() {
    for (int rule : State.RULES) {
      for (State state : State.full()) {
        Check.dueState(state + ", refused step(" + rule + ")", () -> {
          MaxMunch x = state.made();
          x.step(rule);
          return x;
        }, state);
      }
    }
  }

  private static void fullRefusesUntilReset() {
    for (State state : State.full()) {
      MaxMunch emitted = refusedOften(state);
      emitted.emit();
      Check.due(state + ", emit(), step(2)", emitted.step(2), 1);
      MaxMunch skipped = refusedOften(state);
      skipped.skip();
      Check.due(state + ", skip(), step(2)", skipped.step(2), 1);
    }
  }

  /** More than 256 steps, so that a count that went on in secret would show. */
  private static MaxMunch refusedOften(State full) {
    MaxMunch x = full.made();
    for (int i = 1; i <= 300; i++) {
      Check.due(full + ": refused step no. " + i, x.step(i), -1);
      x.stuck();
    }
    return x;
  }

  private static void nineStillHasRoom() {
    Check.due("9 counted: step(0)", State.counted(9).made().step(0), 10);
    MaxMunch x = State.counted(9).made();
    Check.due("9 counted: step(4)", x.step(4), 10);
    Check.due("9 counted, step(4): emit()", x.emit(), (4L << 32) | 10);
    Check.due("0 counted: step(0)", State.counted(0).made().step(0), 1);
  }

  private static void countGrowsByOne() {
    for (State state : State.notFull()) {
      for (int rule : State.RULES) {
        MaxMunch x = state.made();
        x.step(rule);
        // The step after it tells the count that it left.
        int want = state.count() == 9 ? -1 : state.count() + 2;
        Check.due(state + ", step(" + rule + "), step(0)", x.step(0), want);
      }
    }
  }

  private static void ruleIsCastToShort() {
    for (int low = 0; low < 65536; low++) {
      for (int high : new int[] {0, 1, 0x7FFF, 0x8000, 0xFFFF}) {
        dueRule(high * 65536 + low, low);
      }
    }
  }

  private static void acceptIsKept() {
    for (State state : State.notFull()) {
      for (int rule : State.ACCEPTS) {
        int count = state.count() + 1;
        Check.dueState(state + ", step(" + rule + ")", () -> {
          MaxMunch x = state.made();
          x.step(rule);
          return x;
        }, new State(rule, count, count));
      }
    }
  }

  private static void acceptReplacesEarlier() {
    Check.due("9 3: emit()", stepped(9, 3).emit(), (3L << 32) | 2);
    Check.due("3 9: emit()", stepped(3, 9).emit(), (9L << 32) | 2);
    Check.due("6 6: emit()", stepped(6, 6).emit(), (6L << 32) | 2);
    Check.due("3 -2: emit()", stepped(3, -2).emit(), (65534L << 32) | 2);
    Check.due("-2 3: emit()", stepped(-2, 3).emit(), (3L << 32) | 2);
    Check.due("9 0 3: skip()", stepped(9, 0, 3).skip(), 3);
    Check.due("9 0 3 0: stuck()", stepped(9, 0, 3, 0).stuck(), 1);
    Check.due("1 2 .. 10: emit()", stepped(1, 2, 3, 4, 5, 6, 7, 8, 9, 10).emit(), (10L << 32) | 10);
  }

  private static void noAcceptKeepsEarlier() {
    for (State state : State.notFull()) {
      for (int rule : new int[] {0, 65536, -65536, Integer.MIN_VALUE}) {
        Check.dueState(state + ", step(" + rule + ")", () -> {
          MaxMunch x = state.made();
          x.step(rule);
          return x;
        }, new State(state.rule(), state.length(), state.count() + 1));
      }
    }
  }

  private static void answersOneToTen() {
    for (int rule : State.RULES) {
      MaxMunch x = new MaxMunch();
      for (int count = 1; count <= 10; count++) {
        Check.due("step(" + rule + ") no. " + count, x.step(rule), count);
      }
    }
  }

  private static void highBitsDoNotMatter() {
    for (int bit = 16; bit < 32; bit++) {
      dueRule(1 << bit, 0);
      dueRule((1 << bit) + 1, 1);
      dueRule((1 << bit) + 0x7FFF, 0x7FFF);
      dueRule((1 << bit) + 0x8000, 0x8000);
      dueRule((1 << bit) + 0xFFFF, 0xFFFF);
    }
    for (int bit = 0; bit < 16; bit++) {
      dueRule(1 << bit, 1 << bit);
    }
  }

  private static void lowBitsZero() {
    dueRule(0, 0);
    dueRule(65536, 0);
    dueRule(-65536, 0);
    dueRule(Integer.MIN_VALUE, 0);
    for (int high = -32768; high <= 32767; high++) {
      dueRule(high * 65536, 0);
    }
  }

  private static void lowBitsZeroCounts() {
    for (int rule : new int[] {0, 65536, -65536, Integer.MIN_VALUE, 0x7FFF0000}) {
      MaxMunch x = new MaxMunch();
      for (int count = 1; count <= 10; count++) {
        Check.due("step(" + rule + ") no. " + count, x.step(rule), count);
        Check.due("step(" + rule + ") no. " + count + ", stuck()", x.stuck(), -1);
      }
      Check.due("ten times step(" + rule + "), skip()", x.skip(), -1);
    }
  }

  private static void minusOneTwice() {
    dueRule(65535, 65535);
    dueRule(-1, 65535);
  }

  private static void leastRule() {
    dueRule(32768, 32768);
    dueRule(-32768, 32768);
  }

  private static void everyNegativeIsAnAccept() {
    for (int rule = -32768; rule <= -1; rule++) {
      Check.due("step(" + rule + "), stuck()", stepped(rule).stuck(), 0);
      Check.due("step(" + rule + "), skip()", stepped(rule).skip(), 1);
      Check.due("step(5), step(" + rule + "), skip()", stepped(5, rule).skip(), 2);
    }
  }

  private static void onlyZeroIsNoAccept() {
    for (int rule = -32768; rule <= 32767; rule++) {
      Check.due("step(" + rule + "), stuck()", stepped(rule).stuck(), rule == 0 ? -1 : 0);
    }
  }

  private static void acceptLiesWithinTheCount() {
    for (State state : State.withAccept()) {
      int length = state.made().skip();
      Check.due(state + ": 1 <= " + length + " <= cur", 1 <= length && length <= state.count());
    }
  }

  private static MaxMunch stepped(int... rules) {
    MaxMunch x = new MaxMunch();
    for (int rule : rules) {
      x.step(rule);
    }
    return x;
  }

  /** One step with the rule as the second character: what it counts and what it marks. */
  private static void dueRule(int rule, int unsignedRule) {
    MaxMunch x = new MaxMunch();
    x.step(0);
    Check.due("0, step(" + rule + ")", x.step(rule), 2);
    Check.due("0, step(" + rule + "), stuck()", x.stuck(), unsignedRule == 0 ? -1 : 0);
    long want = unsignedRule == 0 ? 0L : unsignedRule * 4294967296L + 2;
    Check.due("0, step(" + rule + "), emit()", x.emit(), want);
  }
}
