/** Promise 5: skip answers the accepted length and resets. */
public final class SkipTest {
  public static void main(String[] args) {
    everyLengthAndCount();
    withoutAccept();
    resetsAsNew();
    Check.end();
  }

  private static void everyLengthAndCount() {
    for (int rule : new int[] {1, 77, -1, 32768, 0x10005, Integer.MAX_VALUE}) {
      for (int accept = 1; accept <= 10; accept++) {
        for (int count = accept; count <= 10; count++) {
          MaxMunch x = new MaxMunch();
          Check.steps(x, accept - 1, 0);
          x.step(rule);
          Check.steps(x, count - accept, 0);
          Check.due("rule " + rule + " at " + accept + " of " + count + ": skip()", x.skip(),
              accept);
          Check.due("skip() again", x.skip(), -1);
        }
      }
    }
  }

  private static void withoutAccept() {
    for (int rule : new int[] {0, 65536, Integer.MIN_VALUE}) {
      for (int count = 0; count <= 10; count++) {
        MaxMunch x = new MaxMunch();
        Check.steps(x, count, rule);
        Check.due("no accept, " + count + " counted: skip()", x.skip(), -1);
        Check.dueFresh("after that skip()", x);
      }
    }
  }

  private static void resetsAsNew() {
    for (int count = 1; count <= 10; count++) {
      for (int rule : new int[] {2, -2}) {
        MaxMunch x = new MaxMunch();
        Check.steps(x, count, rule);
        x.skip();
        Check.dueFresh("accepted " + count + ", skip()", x);
        Check.steps(x, count, rule);
        x.skip();
        Check.due("accepted " + count + ", skip(): emit()", x.emit(), 0L);
        Check.due("then step(5)", x.step(5), 1);
        Check.due("then skip()", x.skip(), 1);
      }
    }
  }
}
