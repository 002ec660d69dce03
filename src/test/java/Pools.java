import java.util.ArrayList;
import java.util.List;

/** Puts a pool into a state that a test wants, and reads a pool's state, both by public calls alone. */
final class Pools {
  /** What 16 mixing steps add to rot, wherever they begin: 15 times 7 and once 14, modulo 32. */
  private static final int ROT_OF_A_ROUND = 23;
  private static final int PROBES = 48;

  private Pools() {}

  /**
   * Every state can be had: words of 0 go through all 512 pairs of cursor and rot, and 16 words
   * more, a whole round, give each cell its value.
   */
  static EntropyPool in(Model want) {
    EntropyPool pool = new EntropyPool();
    Model shadow = new Model();
    int rotBeforeTheRound = Math.floorMod(want.rot - ROT_OF_A_ROUND, 32);
    for (int i = 0; i < 512 && (shadow.cursor != want.cursor || shadow.rot != rotBeforeTheRound); i++) {
      pool.mix(0);
      shadow.mix(0);
    }
    for (int i = 0; i < 16; i++) {
      int word = shadow.wordThatStores(want.cells[Math.floorMod(want.cursor - 1 - i, 16)]);
      pool.mix(word);
      shadow.mix(word);
    }
    pool.credit((int) want.credit);
    return pool;
  }

  /** The edges of cursor, rot and credit in every pairing, with cells other than 0. */
  static List<Model> edgeStates() {
    List<Model> states = new ArrayList<>();
    for (int cursor : new int[] {0, 1, 2, 15}) {
      for (int rot : new int[] {0, 17, 18, 24, 25, 31}) {
        for (int credit : new int[] {0, 1, 31, 32, 33, 511, 512}) {
          states.add(Model.filled(cursor, rot, credit));
        }
      }
    }
    return states;
  }

  /**
   * The state of a pool, from its answers to mix(1). It uses the pool up. Cell c and its taps c+1,
   * c+6 and c+11 were stored 16, 1, 6 and 11 steps before, so from the 17th answer on the xor of
   * these five is the word 1 as rot turned it. The one step of 14 in each round tells the cursor.
   * Then the first 16 answers, taken backward, tell what the cells held. A pool that no state
   * explains is shown with cursor and rot -1.
   */
  static Model seenIn(EntropyPool pool) {
    // stored[16 + i] is what step i stored, stored[i] what that cell held before the probe.
    int[] stored = new int[16 + PROBES];
    for (int i = 0; i < PROBES; i++) {
      stored[16 + i] = pool.mix(1);
    }
    // Asked last, lest available() undo a change that the test's own call of it made.
    int credit = pool.available();
    int[] rots = new int[PROBES];
    int cursor = -1;
    for (int i = 16; i < PROBES; i++) {
      int turned = stored[16 + i] ^ stored[i] ^ tapsOfStep(stored, i);
      rots[i] = Integer.numberOfTrailingZeros(turned);
      if (Integer.bitCount(turned) != 1) {
        return Model.empty(-1, -1, credit);
      }
      if (i > 16 && i <= 32 && Math.floorMod(rots[i] - rots[i - 1], 32) == 14) {
        // Step i - 1 went to cell 0, and it was i steps down from where the cursor began.
        cursor = i % 16;
      }
    }
    if (cursor == -1 || !isRunOfRots(rots, cursor) || pool.credit(0) != credit) {
      return Model.empty(-1, -1, credit);
    }
    Model seen = Model.empty(cursor, Math.floorMod(rots[16] - ROT_OF_A_ROUND, 32), credit);
    for (int i = 15; i >= 0; i--) {
      int turned = 1 << Math.floorMod(rots[i + 16] - ROT_OF_A_ROUND, 32);
      stored[i] = stored[16 + i] ^ turned ^ tapsOfStep(stored, i);
      seen.cells[Math.floorMod(cursor - 1 - i, 16)] = stored[i];
    }
    return seen;
  }

  private static int tapsOfStep(int[] stored, int i) {
    return stored[16 + i - 1] ^ stored[16 + i - 6] ^ stored[16 + i - 11];
  }

  private static boolean isRunOfRots(int[] rots, int cursor) {
    for (int i = 17; i < PROBES; i++) {
      int step = (cursor - i) % 16 == 0 ? 14 : 7;
      if (rots[i] != (rots[i - 1] + step) % 32) {
        return false;
      }
    }
    return true;
  }
}
