import java.util.ArrayList;
import java.util.List;

/**
 * A state that an object can be brought to, and the answers that are due in it. Without an accept,
 * rule and length are 0; otherwise the rule was given at the character with the number length.
 */
record State(int rule, int length, int count) {
  static final State RESET = new State(0, 0, 0);

  /** Rules that mark an accept, at the edges of 16 bits and of the sign. */
  static final int[] ACCEPTS = {1, 5, 255, 256, 32767, -32768, -256, -2, -1};

  /** Any kind of rule: accepts, no accepts, and values beyond 16 bits of either kind. */
  static final int[] RULES = {
    0, 1, 9, 32767, 32768, 65535, 65536, 65537, 0x10005, 0x7FFF0000,
    -1, -32768, -32769, -65535, -65536, Integer.MAX_VALUE, Integer.MIN_VALUE, Integer.MIN_VALUE + 1
  };

  static State counted(int count) {
    return new State(0, 0, count);
  }

  /** Every count from 0 to 10 without an accept. */
  static List<State> withoutAccept() {
    List<State> states = new ArrayList<>();
    for (int count = 0; count <= 10; count++) {
      states.add(counted(count));
    }
    return states;
  }

  /** Every rule of ACCEPTS at every length, with every count from there. */
  static List<State> withAccept() {
    List<State> states = new ArrayList<>();
    for (int rule : ACCEPTS) {
      for (int length = 1; length <= 10; length++) {
        for (int count = length; count <= 10; count++) {
          states.add(new State(rule, length, count));
        }
      }
    }
    return states;
  }

  static List<State> all() {
    List<State> states = withoutAccept();
    states.addAll(withAccept());
    return states;
  }

  /** Those in which 10 characters are counted. */
  static List<State> full() {
    List<State> states = all();
    states.removeIf(state -> state.count != 10);
    return states;
  }

  /** Those in which another character can be counted. */
  static List<State> notFull() {
    List<State> states = all();
    states.removeIf(state -> state.count == 10);
    return states;
  }

  /** A new object, brought to this state. */
  MaxMunch made() {
    MaxMunch x = new MaxMunch();
    for (int i = 1; i <= count; i++) {
      x.step(i == length ? rule : 0);
    }
    return x;
  }

  int pushBack() {
    return length == 0 ? -1 : count - length;
  }

  /** Made by arithmetic, so that it doesn't repeat the program's mask and shift. */
  long packed() {
    return Math.floorMod(rule, 65536) * 4294967296L + length;
  }

  int skipped() {
    return length == 0 ? -1 : length;
  }

  int nextCount() {
    return count == 10 ? -1 : count + 1;
  }

  @Override
  public String toString() {
    if (length == 0) {
      return count + " counted, no accept";
    }
    return count + " counted, accept of " + rule + " at " + length;
  }
}
