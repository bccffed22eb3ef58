/** Promise 2: step counts one character. */
public final class StepTest {
  public static void main(String[] args) {
    countsToTen();
    fullChangesNothing();
    latestAcceptReplaces();
    edgeRules();
    everyLowHalf();
    Check.end();
  }

  private static void countsToTen() {
    MaxMunch x = new MaxMunch();
    for (int i = 1; i <= 10; i++) {
      Check.due("step(0) no. " + i, x.step(0), i);
    }
    MaxMunch y = new MaxMunch();
    for (int i = 1; i <= 10; i++) {
      Check.due("step(" + i + ") no. " + i, y.step(i), i);
    }
    Check.due("emit() after an accept at 10", y.emit(), Check.packed(10, 10));
  }

  private static void fullChangesNothing() {
    int[] rules = {0, 1, 9, -1, 32768, 65536, Integer.MAX_VALUE, Integer.MIN_VALUE};
    for (int rule : rules) {
      MaxMunch without = new MaxMunch();
      Check.steps(without, 10, 0);
      MaxMunch with = new MaxMunch();
      Check.steps(with, 3, 4);
      Check.steps(with, 7, 0);
      for (int i = 0; i < 30; i++) {
        Check.due("full, no accept: step(" + rule + ")", without.step(rule), -1);
        Check.due("full, accept at 3: step(" + rule + ")", with.step(rule), -1);
      }
      Check.due("full, no accept: stuck() after step(" + rule + ")", without.stuck(), -1);
      Check.due("full, no accept: emit() after step(" + rule + ")", without.emit(), 0L);
      Check.due("full, accept at 3: stuck() after step(" + rule + ")", with.stuck(), 7);
      Check.due("full, accept at 3: emit() after step(" + rule + ")", with.emit(),
          Check.packed(4, 3));
      Check.due("step after emit", without.step(rule), 1);
      Check.due("step after emit", with.step(rule), 1);
    }
  }

  private static void latestAcceptReplaces() {
    MaxMunch x = new MaxMunch();
    x.step(9);
    x.step(0);
    x.step(3);
    x.step(0);
    Check.due("9 0 3 0: stuck()", x.stuck(), 1);
    Check.due("9 0 3 0: emit()", x.emit(), Check.packed(3, 3));
    x.step(3);
    x.step(-2);
    Check.due("3 -2: emit()", x.emit(), Check.packed(65534, 2));
    x.step(3);
    x.step(65536);
    Check.due("3 65536: emit()", x.emit(), Check.packed(3, 1));
    x.step(6);
    x.step(6);
    Check.due("6 6: emit()", x.emit(), Check.packed(6, 2));
  }

  private static void edgeRules() {
    int[] noAccept = {0, 0x10000, -65536, Integer.MIN_VALUE, 0x7FFF0000, 0x20000, -131072};
    for (int rule : noAccept) {
      dueRule(rule, 0);
    }
    dueRule(0x10005, 5);
    dueRule(65535, 65535);
    dueRule(-1, 65535);
    dueRule(32768, 32768);
    dueRule(-32768, 32768);
    dueRule(32767, 32767);
    dueRule(-32769, 32767);
    dueRule(Integer.MAX_VALUE, 65535);
    dueRule(Integer.MIN_VALUE + 1, 1);
    dueRule(256, 256);
    dueRule(65537, 1);
    dueRule(-65535, 1);
  }

  private static void everyLowHalf() {
    int[] highs = {0, 1, 0x7FFF, 0x8000, 0xFFFF};
    for (int low = 0; low < 65536; low++) {
      for (int high : highs) {
        dueRule(high * 65536 + low, low);
      }
    }
  }

  /** One step with the rule as the second character: what it counts and what it marks. */
  private static void dueRule(int rule, int unsignedRule) {
    MaxMunch x = new MaxMunch();
    x.step(0);
    Check.due("0, step(" + rule + ")", x.step(rule), 2);
    Check.due("0, step(" + rule + "), stuck()", x.stuck(), unsignedRule == 0 ? -1 : 0);
    long want = unsignedRule == 0 ? 0L : Check.packed(unsignedRule, 2);
    Check.due("0, step(" + rule + "), emit()", x.emit(), want);
  }
}
