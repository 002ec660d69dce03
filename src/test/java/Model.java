import java.util.Arrays;

/**
 * A second writing of the document, with its state open to the tests. It is written in another way
 * than the class (bit by bit for the rotation, % in place of masks, long sums), so that both are
 * not wrong in the same manner.
 */
final class Model {
  private static final int[] TAPS = {0, 1, 6, 11};

  final int[] cells = new int[16];
  int cursor = 0;
  int rot = 0;
  long credit = 0;

  /** All cells 0. */
  static Model empty(int cursor, int rot, long credit) {
    Model model = new Model();
    model.cursor = cursor;
    model.rot = rot;
    model.credit = credit;
    return model;
  }

  /** Every cell other than 0, no two alike, some negative. */
  static Model filled(int cursor, int rot, long credit) {
    Model model = empty(cursor, rot, credit);
    for (int i = 0; i < 16; i++) {
      model.cells[i] = (i + 1) * 0x9E3779B9;
    }
    return model;
  }

  Model copy() {
    Model copy = empty(cursor, rot, credit);
    System.arraycopy(cells, 0, copy.cells, 0, 16);
    return copy;
  }

  Model withCell(int index, int value) {
    Model changed = copy();
    changed.cells[index] = value;
    return changed;
  }

  Model withCredit(long bits) {
    Model changed = copy();
    changed.credit = bits;
    return changed;
  }

  static int rotate(int word, int places) {
    int turned = 0;
    for (int bit = 0; bit < 32; bit++) {
      if ((word >> bit & 1) == 1) {
        turned |= 1 << (bit + places) % 32;
      }
    }
    return turned;
  }

  private int xorOfTaps(int c) {
    int value = 0;
    for (int tap : TAPS) {
      value ^= cells[(c + tap) % 16];
    }
    return value;
  }

  private int nextCursor() {
    return cursor == 0 ? 15 : cursor - 1;
  }

  /** The word that makes the next mixing step store this value. */
  int wordThatStores(int value) {
    return rotate(value ^ xorOfTaps(nextCursor()), 32 - rot);
  }

  int mix(int word) {
    int w = rotate(word, rot);
    cursor = nextCursor();
    rot = (rot + (cursor == 0 ? 14 : 7)) % 32;
    cells[cursor] = w ^ xorOfTaps(cursor);
    return cells[cursor];
  }

  long credit(int bits) {
    if (bits < 0) {
      return -1;
    }
    credit = Math.min(512L, credit + bits);
    return credit;
  }

  int fold() {
    int fold = 0;
    for (int cell : cells) {
      fold ^= cell;
    }
    return fold;
  }

  long extract(int bits) {
    if (bits < 1 || bits > 32) {
      return -2;
    }
    if (credit < bits) {
      return -1;
    }
    int fold = fold();
    credit -= bits;
    mix(fold);
    return Integer.toUnsignedLong(fold) % (1L << bits);
  }

  @Override
  public String toString() {
    return "cursor " + cursor + ", rot " + rot + ", credit " + credit + ", cells " + Arrays.toString(cells);
  }
}
