/** Promise 2. */
public final class MixTest {
  private static final int[] EDGES = {0, 1, -1, 2, -2, Integer.MIN_VALUE, Integer.MAX_VALUE, 0x55555555, 0xAAAAAAAA};

  public static void main(String[] args) {
    documentExample();
    firstWordIsStoredAsItIs();
    rotationBringsBitsBack();
    tapsAreReadBeforeTheStore();
    rotTakesLongStepAtCellZero();
    extractCountsAsMixingStep();
    creditIsLeftAlone();
    Check.end();
  }

  private static void documentExample() {
    EntropyPool pool = new EntropyPool();
    Check.due("first mix(5)", pool.mix(5), 5);
    // Rotated by 7 is 640, and cell 15 is the tap c+1: 640 xor 5.
    Check.due("second mix(5)", pool.mix(5), 645);
  }

  private static void firstWordIsStoredAsItIs() {
    for (int word : EDGES) {
      Check.due("new: mix(" + word + ")", new EntropyPool().mix(word), word);
    }
  }

  private static void rotationBringsBitsBack() {
    int[] rots = {0, 7, 14, 21, 28, 3, 10, 17, 24, 31, 6, 13, 20, 27, 2, 9, 23};
    for (int word : EDGES) {
      for (int steps = 0; steps < rots.length; steps++) {
        EntropyPool pool = new EntropyPool();
        for (int i = 0; i < steps; i++) {
          pool.mix(0);
        }
        Check.due("mix(" + word + ") at rot " + rots[steps], pool.mix(word), Integer.rotateLeft(word, rots[steps]));
      }
    }
  }

  /**
   * One bit in cell 15 and words of 0 behind it show the taps: a step answers 1 when an odd number
   * of the cells c, c+1, c+6 and c+11 hold the bit. Worked out by hand from the document's formula.
   */
  private static void tapsAreReadBeforeTheStore() {
    int[] due = {
      1, // cell 15, the bit itself
      1, // cell 14: 15
      1, // cell 13: 14
      1, // cell 12: 13
      1, // cell 11: 12
      1, // cell 10: 11, for 0 and 5 are still empty
      0, // cell 9: 10 and 15
      1, // cell 8: 14, for 9 is 0 now
      0, // cell 7: 8 and 13
      1, // cell 6: 12
      0, // cell 5: 6 and 11
      0, // cell 4: 10 and 15, for 5 is 0
      1, // cell 3: 14, for 4 and 9 are 0
      1, // cell 2: 3, 8 and 13
      0, // cell 1: 2 and 12, for 7 is 0
      0, // cell 0: 6 and 11, for 1 is 0
    };
    EntropyPool pool = new EntropyPool();
    Check.due("mix(1) into cell 15", pool.mix(1), due[0]);
    for (int i = 1; i < 16; i++) {
      Check.due("mix(0) into cell " + (15 - i), pool.mix(0), due[i]);
    }
    // The second round begins with the old value of cell 15 in its own new value:
    // 15 is 1, 0 is 0, 5 is 0, 10 is 1.
    Check.due("mix(0) into cell 15 again", pool.mix(0), 0);
    // 14 is 1, 15 is 0 now, 4 is 0, 9 is 0.
    Check.due("mix(0) into cell 14 again", pool.mix(0), 1);
  }

  private static void rotTakesLongStepAtCellZero() {
    EntropyPool pool = new EntropyPool();
    for (int i = 0; i < 15; i++) {
      pool.mix(0);
    }
    // 15 steps of 7 are 105, which is 9 modulo 32; this call goes to cell 0.
    Check.due("the 16th mixing step, mix(1)", pool.mix(1), 1 << 9);
    // 9 + 14 is 23. Cell 15: its tap c+1 is cell 0.
    Check.due("the 17th mixing step, mix(1)", pool.mix(1), (1 << 23) ^ (1 << 9));
  }

  private static void extractCountsAsMixingStep() {
    EntropyPool pool = new EntropyPool();
    pool.credit(512);
    for (int i = 0; i < 16; i++) {
      pool.extract(1);
    }
    Check.due("mix(1) behind 16 extractions of an empty pool", pool.mix(1), 1 << 23);
  }

  private static void creditIsLeftAlone() {
    for (int start : new int[] {0, 1, 31, 511, 512}) {
      EntropyPool pool = new EntropyPool();
      pool.credit(start);
      for (int word : EDGES) {
        pool.mix(word);
        Check.due("credit " + start + ", mix(" + word + "): available()", pool.available(), start);
      }
    }
  }
}
