/** Promise 4: emit answers the packed accept and resets. */
public final class EmitTest {
  public static void main(String[] args) {
    exampleOfTheDocument();
    everyLengthAndCount();
    withoutAccept();
    signStaysOut();
    resetsAsNew();
    Check.end();
  }

  private static void exampleOfTheDocument() {
    MaxMunch x = new MaxMunch();
    Check.due("step(0)", x.step(0), 1);
    Check.due("step(7)", x.step(7), 2);
    Check.due("step(0)", x.step(0), 3);
    Check.due("stuck()", x.stuck(), 1);
    Check.due("emit()", x.emit(), 30064771074L);
    Check.due("stuck()", x.stuck(), -1);
  }

  private static void everyLengthAndCount() {
    for (int accept = 1; accept <= 10; accept++) {
      for (int count = accept; count <= 10; count++) {
        MaxMunch x = new MaxMunch();
        Check.steps(x, accept - 1, 0);
        x.step(300 + accept);
        Check.steps(x, count - accept, 0);
        Check.due("accept at " + accept + " of " + count + ": emit()", x.emit(),
            Check.packed(300 + accept, accept));
        Check.due("emit() again", x.emit(), 0L);
      }
    }
  }

  private static void withoutAccept() {
    for (int count = 0; count <= 10; count++) {
      MaxMunch x = new MaxMunch();
      Check.steps(x, count, 0);
      Check.due("no accept, " + count + " counted: emit()", x.emit(), 0L);
      Check.dueFresh("after that emit()", x);
    }
  }

  private static void signStaysOut() {
    MaxMunch x = new MaxMunch();
    x.step(-1);
    Check.due("step(-1), emit()", x.emit(), 281470681743361L);
    x.step(-32768);
    Check.due("step(-32768), emit()", x.emit(), 140737488355329L);
    x.step(0xFFFF);
    Check.due("step(0xFFFF), emit()", x.emit(), 281470681743361L);
    x.step(32767);
    Check.due("step(32767), emit()", x.emit(), 140733193388033L);
    x.step(1);
    Check.due("step(1), emit()", x.emit(), 4294967297L);
  }

  private static void resetsAsNew() {
    for (int count = 1; count <= 10; count++) {
      for (int rule : new int[] {2, -2}) {
        MaxMunch x = new MaxMunch();
        Check.steps(x, count, rule);
        x.emit();
        Check.dueFresh("accepted " + count + ", emit()", x);
        Check.steps(x, count, rule);
        x.emit();
        Check.due("accepted " + count + ", emit(): skip()", x.skip(), -1);
      }
    }
  }
}
