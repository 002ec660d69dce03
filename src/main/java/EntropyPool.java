public final class EntropyPool {
  private static final int CELLS = 16;
  // CELLS is a power of two, so this mask takes any int, negative ones too, modulo 16.
  private static final int CELL_MASK = CELLS - 1;
  private static final int ROT_MASK = 31;
  private static final int ROT_STEP = 7;
  private static final int ROT_STEP_AT_ZERO = 14;
  private static final int MAX_CREDIT = 512;
  private static final int MAX_EXTRACT = 32;
  private static final int NEGATIVE_CREDIT = -1;
  private static final long TOO_LITTLE_CREDIT = -1L;
  private static final long BITS_OUT_OF_RANGE = -2L;

  private final int[] cells = new int[CELLS];
  private int cursor;
  private int rot;
  private int creditBits;

  public EntropyPool() {
    cursor = 0;
    rot = 0;
    creditBits = 0;
  }

  public int mix(int word) {
    // The word turns by the rot from before this call, so it is rotated before rot advances.
    int rotated = rotateLeft(word, rot);
    cursor = (cursor - 1) & CELL_MASK;
    advanceRot();
    int stored = rotated ^ taps(cursor);
    cells[cursor & CELL_MASK] = stored;
    return stored;
  }

  public int credit(int bits) {
    if (bits < 0) {
      return NEGATIVE_CREDIT;
    }
    // Compared with the room left, because creditBits + bits could overflow.
    if (bits > MAX_CREDIT - creditBits) {
      creditBits = MAX_CREDIT;
    } else {
      creditBits += bits;
    }
    return creditBits;
  }

  public long extract(int bits) {
    if (bits < 1 || bits > MAX_EXTRACT) {
      return BITS_OUT_OF_RANGE;
    }
    if (creditBits < bits) {
      return TOO_LITTLE_CREDIT;
    }
    // Folded before the mixing back, which changes a cell.
    int folded = fold();
    creditBits -= bits;
    mix(folded);
    return lowBits(folded, bits);
  }

  public int available() {
    return creditBits;
  }

  private void advanceRot() {
    int step = cursor == 0 ? ROT_STEP_AT_ZERO : ROT_STEP;
    rot = (rot + step) & ROT_MASK;
  }

  private int taps(int c) {
    return cells[c & CELL_MASK]
        ^ cells[(c + 1) & CELL_MASK]
        ^ cells[(c + 6) & CELL_MASK]
        ^ cells[(c + 11) & CELL_MASK];
  }

  private int fold() {
    int folded = 0;
    for (int i = 0; i < CELLS; i++) {
      folded ^= cells[i];
    }
    return folded;
  }

  private static int rotateLeft(int word, int places) {
    // Java takes shift distances modulo 32, so places 0 shifts by 0 both times and gives word.
    return (word << places) | (word >>> (32 - places));
  }

  private static long lowBits(int value, int bits) {
    // A long mask, because 1 << 32 as an int would be 1, and because it drops the sign's copies.
    return (long) value & ((1L << bits) - 1L);
  }
}
