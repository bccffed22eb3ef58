import java.lang.reflect.Constructor;
import java.lang.reflect.Field;
import java.lang.reflect.Member;
import java.lang.reflect.Method;
import java.lang.reflect.Modifier;
import java.util.Set;
import java.util.TreeSet;

/** "What it is" and "The public face". */
public final class FaceTest {
  public static void main(String[] args) {
    Check.sentence("At most 10 characters can be counted between two resets.",
        FaceTest::atMostTen);
    Check.sentence("The object remembers the most recent accept",
        FaceTest::remembersTheMostRecent);
    Check.sentence("Both `emit` and `skip` reset the object afterwards.",
        FaceTest::bothReset);
    Check.sentence("`accRule == 0` means there has been no accept since the last reset.",
        FaceTest::acceptBeforeTheResetIsNone);
    Check.sentence("The class has no public constants.",
        FaceTest::noPublicConstants);
    Check.sentence("public final class MaxMunch {",
        FaceTest::publicAndFinal);
    Check.sentence("## The public face",
        FaceTest::theFaceAndNoMore);
    Check.end();
  }

  private static void atMostTen() {
    MaxMunch x = new MaxMunch();
    for (int round = 1; round <= 4; round++) {
      for (int count = 1; count <= 10; count++) {
        Check.due("round " + round + ": step no. " + count, x.step(round % 2), count);
      }
      Check.due("round " + round + ": step no. 11", x.step(round % 2), -1);
      if (round <= 2) {
        x.emit();
      } else {
        x.skip();
      }
    }
  }

  private static void remembersTheMostRecent() {
    MaxMunch x = new MaxMunch();
    x.step(9);
    x.step(0);
    x.step(3);
    x.step(0);
    Check.due("9 0 3 0: stuck()", x.stuck(), 1);
    Check.due("9 0 3 0: emit()", x.emit(), (3L << 32) | 3);
  }

  private static void bothReset() {
    MaxMunch x = new State(7, 2, 3).made();
    x.emit();
    Check.due("emit(), step(0)", x.step(0), 1);
    MaxMunch y = new State(7, 2, 3).made();
    y.skip();
    Check.due("skip(), step(0)", y.step(0), 1);
  }

  private static void acceptBeforeTheResetIsNone() {
    MaxMunch x = new State(7, 2, 3).made();
    x.emit();
    x.step(0);
    Check.due("an accept, emit(), step(0): stuck()", x.stuck(), -1);
    Check.due("an accept, emit(), step(0): skip()", x.skip(), -1);
    MaxMunch y = new State(7, 2, 3).made();
    y.skip();
    y.step(0);
    Check.due("an accept, skip(), step(0): stuck()", y.stuck(), -1);
    Check.due("an accept, skip(), step(0): skip()", y.skip(), -1);
  }

  private static void noPublicConstants() {
    Check.due("public fields", MaxMunch.class.getFields().length, 0);
  }

  private static void publicAndFinal() {
    int modifiers = MaxMunch.class.getModifiers();
    Check.due("public", Modifier.isPublic(modifiers));
    Check.due("final", Modifier.isFinal(modifiers));
  }

  private static void theFaceAndNoMore() {
    Set<String> seen = new TreeSet<>();
    for (Constructor<?> member : MaxMunch.class.getDeclaredConstructors()) {
      addUnlessPrivate(seen, member);
    }
    for (Method member : MaxMunch.class.getDeclaredMethods()) {
      addUnlessPrivate(seen, member);
    }
    for (Field member : MaxMunch.class.getDeclaredFields()) {
      addUnlessPrivate(seen, member);
    }
    Set<String> want = new TreeSet<>(Set.of(
        "public MaxMunch()",
        "public int MaxMunch.step(int)",
        "public int MaxMunch.stuck()",
        "public long MaxMunch.emit()",
        "public int MaxMunch.skip()"));
    Check.due("members that aren't private: " + seen, seen.equals(want));
  }

  private static void addUnlessPrivate(Set<String> seen, Member member) {
    if (!Modifier.isPrivate(member.getModifiers())) {
      seen.add(member.toString());
    }
  }
}
