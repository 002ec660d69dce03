/** Promise 4. */
public final class ExtractTest {
  private static final int[] OUT_OF_RANGE = {0, -1, -2, -32, 33, 34, 63, 64, 65, 512, Integer.MIN_VALUE, Integer.MAX_VALUE};

  public static void main(String[] args) {
    refusesBitsOutOfRange();
    refusesMoreThanTheCredit();
    succeedsAtExactlyTheCredit();
    handsOutTheLowBits();
    readsThirtyTwoBitsUnsigned();
    foldsAllCells();
    mixesTheFoldBack();
    foldIsTakenBeforeMixingBack();
    drainsTheWholeCredit();
    Check.end();
  }

  /** A pool whose single word makes the fold. */
  private static EntropyPool poolOf(int word, int credit) {
    EntropyPool pool = new EntropyPool();
    pool.mix(word);
    pool.credit(credit);
    return pool;
  }

  private static EntropyPool usedPool(int steps, int credit) {
    EntropyPool pool = new EntropyPool();
    for (int i = 0; i < steps; i++) {
      pool.mix(i * 0x9E3779B9 + 11);
    }
    pool.credit(credit);
    return pool;
  }

  private static void refusesBitsOutOfRange() {
    for (int credit : new int[] {0, 1, 32, 33, 512}) {
      for (int bits : OUT_OF_RANGE) {
        EntropyPool pool = usedPool(21, credit);
        String call = "extract(" + bits + ") at credit " + credit;
        Check.due(call, pool.extract(bits), -2);
        Check.sameState("behind " + call, pool, usedPool(21, credit));
      }
    }
  }

  private static void refusesMoreThanTheCredit() {
    for (int bits = 1; bits <= 32; bits++) {
      for (int credit = 0; credit < bits; credit++) {
        EntropyPool pool = usedPool(18, credit);
        String call = "extract(" + bits + ") at credit " + credit;
        Check.due(call, pool.extract(bits), -1);
        Check.sameState("behind " + call, pool, usedPool(18, credit));
      }
    }
  }

  private static void succeedsAtExactlyTheCredit() {
    for (int bits = 1; bits <= 32; bits++) {
      EntropyPool pool = poolOf(-1, bits);
      Check.due("extract(" + bits + ") at credit " + bits, pool.extract(bits), (1L << bits) - 1);
      Check.due("available() behind it", pool.available(), 0);
      Check.due("extract(1) behind it", pool.extract(1), -1);
    }
  }

  private static void handsOutTheLowBits() {
    for (int word : new int[] {0, 1, 2, 5, 0x12345678, 0x89ABCDEF, -1, -2, Integer.MIN_VALUE, Integer.MAX_VALUE}) {
      for (int bits = 1; bits <= 32; bits++) {
        EntropyPool pool = poolOf(word, 512);
        long want = Integer.toUnsignedLong(word) % (1L << bits);
        Check.due("fold " + word + ": extract(" + bits + ")", pool.extract(bits), want);
        Check.due("available() behind it", pool.available(), 512 - bits);
      }
    }
  }

  private static void readsThirtyTwoBitsUnsigned() {
    Check.due("fold -1: extract(32)", poolOf(-1, 32).extract(32), 4294967295L);
    Check.due("fold -2: extract(32)", poolOf(-2, 32).extract(32), 4294967294L);
    Check.due("fold Integer.MIN_VALUE: extract(32)", poolOf(Integer.MIN_VALUE, 32).extract(32), 2147483648L);
    Check.due("fold Integer.MIN_VALUE: extract(31)", poolOf(Integer.MIN_VALUE, 32).extract(31), 0);
    Check.due("fold Integer.MAX_VALUE: extract(32)", poolOf(Integer.MAX_VALUE, 32).extract(32), 2147483647L);
  }

  /** Through one round on a new pool every answer of mix is what one cell holds. */
  private static void foldsAllCells() {
    for (int steps = 0; steps <= 16; steps++) {
      EntropyPool pool = new EntropyPool();
      int fold = 0;
      for (int i = 0; i < steps; i++) {
        fold ^= pool.mix(i * 0x01000193 - 77);
      }
      pool.credit(32);
      Check.due("extract(32) behind " + steps + " words", pool.extract(32), Integer.toUnsignedLong(fold));
    }
  }

  private static void mixesTheFoldBack() {
    for (int steps = 0; steps <= 40; steps++) {
      for (int bits : new int[] {1, 8, 31, 32}) {
        long fold = usedPool(steps, 32).extract(32);
        EntropyPool extracted = usedPool(steps, 100);
        extracted.extract(bits);
        // The whole fold goes back, also when few of its bits were handed out.
        EntropyPool mixed = usedPool(steps, 100 - bits);
        mixed.mix((int) fold);
        Check.sameState("behind " + steps + " words and extract(" + bits + ")", extracted, mixed);
      }
    }
  }

  private static void foldIsTakenBeforeMixingBack() {
    EntropyPool pool = poolOf(7, 64);
    Check.due("fold 7: extract(32)", pool.extract(32), 7);
    // 7 went back rotated by 7, that is 896, with cell 15 as its tap: cell 14 is 903.
    Check.due("then extract(32)", pool.extract(32), 7 ^ 903);
    Check.due("then available()", pool.available(), 0);
  }

  private static void drainsTheWholeCredit() {
    EntropyPool pool = usedPool(30, Integer.MAX_VALUE);
    for (int left = 512; left > 0; left -= 32) {
      Check.due("available()", pool.available(), left);
      Check.isTrue("extract(32) at credit " + left + " is 0 or more", pool.extract(32) >= 0);
    }
    Check.due("extract(1) of the drained pool", pool.extract(1), -1);
    Check.due("available() of the drained pool", pool.available(), 0);
  }
}
