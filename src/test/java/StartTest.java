import java.lang.reflect.Constructor;
import java.lang.reflect.Field;
import java.lang.reflect.Method;
import java.lang.reflect.Modifier;
import java.util.Set;
import java.util.TreeSet;

/** Promise 1: construction and the starting state, and the public face. */
public final class StartTest {
  public static void main(String[] args) {
    firstAnswers();
    objectsAreApart();
    publicFace();
    Check.end();
  }

  private static void firstAnswers() {
    Check.due("new: stuck()", new MaxMunch().stuck(), -1);
    Check.due("new: emit()", new MaxMunch().emit(), 0L);
    Check.due("new: skip()", new MaxMunch().skip(), -1);
    Check.due("new: step(0)", new MaxMunch().step(0), 1);
    Check.due("new: step(7)", new MaxMunch().step(7), 1);
    Check.due("new: step(-1)", new MaxMunch().step(-1), 1);
    Check.due("new: step(MIN_VALUE)", new MaxMunch().step(Integer.MIN_VALUE), 1);
    Check.dueFresh("new", new MaxMunch());
  }

  private static void objectsAreApart() {
    MaxMunch a = new MaxMunch();
    MaxMunch b = new MaxMunch();
    Check.due("a.step(5)", a.step(5), 1);
    Check.due("b.stuck()", b.stuck(), -1);
    Check.due("b.step(0)", b.step(0), 1);
    Check.due("b.step(9)", b.step(9), 2);
    Check.due("a.step(0)", a.step(0), 2);
    MaxMunch c = new MaxMunch();
    Check.due("a.stuck() after c is made", a.stuck(), 1);
    Check.due("b.skip()", b.skip(), 2);
    Check.due("a.emit() after b.skip()", a.emit(), Check.packed(5, 1));
    Check.dueFresh("c", c);
  }

  private static void publicFace() {
    Class<?> face = MaxMunch.class;
    Check.due("class is public and final",
        Modifier.isPublic(face.getModifiers()) && Modifier.isFinal(face.getModifiers()));
    Set<String> seen = new TreeSet<>();
    for (Constructor<?> c : face.getDeclaredConstructors()) {
      if (!Modifier.isPrivate(c.getModifiers())) {
        seen.add(c.toString());
      }
    }
    for (Method m : face.getDeclaredMethods()) {
      if (!Modifier.isPrivate(m.getModifiers())) {
        seen.add(m.toString());
      }
    }
    for (Field f : face.getDeclaredFields()) {
      if (!Modifier.isPrivate(f.getModifiers())) {
        seen.add(f.toString());
      }
    }
    Set<String> want = new TreeSet<>(Set.of(
        "public MaxMunch()",
        "public int MaxMunch.step(int)",
        "public int MaxMunch.stuck()",
        "public long MaxMunch.emit()",
        "public int MaxMunch.skip()"));
    Check.due("members that aren't private: " + seen, seen.equals(want));
  }
}
