/** Promise 3: stuck tells how much to push back. */
public final class StuckTest {
  public static void main(String[] args) {
    withoutAccept();
    everyAcceptAndCount();
    changesNothing();
    Check.end();
  }

  private static void withoutAccept() {
    for (int rule : new int[] {0, 65536, Integer.MIN_VALUE}) {
      MaxMunch x = new MaxMunch();
      for (int count = 0; count <= 10; count++) {
        Check.due("no accept, " + count + " counted: stuck()", x.stuck(), -1);
        x.step(rule);
      }
      Check.due("no accept, full and refused: stuck()", x.stuck(), -1);
    }
  }

  private static void everyAcceptAndCount() {
    for (int rule : new int[] {1, -1, 32767, 32768}) {
      for (int accept = 1; accept <= 10; accept++) {
        for (int count = accept; count <= 10; count++) {
          MaxMunch x = new MaxMunch();
          Check.steps(x, accept - 1, 0);
          x.step(rule);
          Check.steps(x, count - accept, 0);
          String when = "rule " + rule + " at " + accept + " of " + count;
          Check.due(when + ": stuck()", x.stuck(), count - accept);
          if (count == 10) {
            x.step(rule);
            Check.due(when + ", refused step: stuck()", x.stuck(), count - accept);
          }
        }
      }
    }
  }

  private static void changesNothing() {
    MaxMunch x = new MaxMunch();
    stuckOften(x, -1);
    Check.due("step(0)", x.step(0), 1);
    stuckOften(x, -1);
    Check.due("step(-3)", x.step(-3), 2);
    stuckOften(x, 0);
    Check.due("step(0)", x.step(0), 3);
    stuckOften(x, 1);
    Check.due("emit()", x.emit(), Check.packed(65533, 2));
    stuckOften(x, -1);
    Check.due("step(8)", x.step(8), 1);
    Check.steps(x, 9, 0);
    stuckOften(x, 9);
    Check.due("full: step(0)", x.step(0), -1);
    stuckOften(x, 9);
    Check.due("skip()", x.skip(), 1);
    stuckOften(x, -1);
  }

  private static void stuckOften(MaxMunch x, int want) {
    for (int i = 0; i < 25; i++) {
      Check.due("stuck() no. " + (i + 1), x.stuck(), want);
    }
  }
}
