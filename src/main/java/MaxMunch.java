/** The bookkeeping of longest-match scanning: what was counted, and the last accept in it. */
public final class MaxMunch {
  private static final int MOST_CHARACTERS = 10;
  private static final int NONE = -1;

  private int cur;
  private int accLen;
  private short accRule;

  public MaxMunch() {
    reset();
  }

  /** Counts one character; answers the new count, or -1 when no more can be counted. */
  public int step(int rule) {
    if (cur >= MOST_CHARACTERS) {
      return NONE;
    }
    cur++;
    // Cast before the test for 0: a rule such as 0x10000 is no accept.
    short r = (short) rule;
    if (r != 0) {
      accRule = r;
      accLen = cur;
    }
    return cur;
  }

  /** Answers how many characters to push back, or -1 without an accept. */
  public int stuck() {
    return hasAccept() ? cur - accLen : NONE;
  }

  /** Answers the accepted rule (bits 32 to 47) and length (low 32 bits), and resets. */
  public long emit() {
    // The mask keeps the sign of a negative rule out of bits 48 to 63.
    long packed = ((long) (accRule & 0xFFFF)) << 32 | accLen;
    reset();
    return packed;
  }

  /** Answers the accepted length, or -1 without an accept, and resets. */
  public int skip() {
    int length = hasAccept() ? accLen : NONE;
    reset();
    return length;
  }

  private boolean hasAccept() {
    return accRule != 0;
  }

  private void reset() {
    cur = 0;
    accLen = 0;
    accRule = 0;
  }
}
