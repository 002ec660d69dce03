/** Promise 4, sentence by sentence. */
public final class ExtractTest {
  private static final int[] TOO_SMALL = {0, -1, -2, -31, -32, -33, -64, -512, Integer.MIN_VALUE + 32, Integer.MIN_VALUE + 1, Integer.MIN_VALUE};
  private static final int[] TOO_LARGE = {33, 34, 63, 64, 65, 96, 511, 512, 513, 65537, Integer.MAX_VALUE - 1, Integer.MAX_VALUE};
  private static final int[] FOLDS = {0, 1, 2, 5, 0x12345678, 0x89ABCDEF, -1, -2, Integer.MIN_VALUE, Integer.MIN_VALUE + 1, Integer.MAX_VALUE};

  public static void main(String[] args) {
    Check.sentence("considers the following conditions in this order and stops at the first that applies", ExtractTest::rangeComesBeforeCredit);
    Check.sentence("bits < 1: answers -2. Nothing changes.", ExtractTest::tooFewBitsAreRefused);
    Check.sentence("bits > 32: answers -2. Nothing changes.", ExtractTest::tooManyBitsAreRefused);
    Check.sentence("This holds whatever the credit is.", ExtractTest::rangeIsRefusedAtEveryCredit);
    Check.sentence("extract(0), extract(33), extract(-1) and extract(Integer.MIN_VALUE) all answer -2 even when the credit is 0.", ExtractTest::examplesOfTheRange);
    Check.sentence("credit < bits: answers -1. Nothing changes.", ExtractTest::moreThanTheCreditIsRefused);
    Check.sentence("credit < bits: answers -1 (the credit is empty).", ExtractTest::emptyCreditRefusesAll);
    Check.sentence("f is the xor of all 16 cells, taken from the cells as they are at the call", ExtractTest::foldIsOfAllCells);
    Check.sentence("the credit goes down by bits, so it stays in 0..512", ExtractTest::creditGoesDownByBits);
    Check.sentence("f is mixed back into the pool exactly as mix(f) would do.", ExtractTest::foldIsMixedBack);
    Check.sentence("the rotation by the present rot, the cursor move, the rot advance and the store", ExtractTest::mixingBackStepByStep);
    Check.sentence("This mixing back does not alter the credit beyond the decrease just described", ExtractTest::mixingBackLeavesTheCredit);
    Check.sentence("the answer is the low bits bits of f", ExtractTest::answerIsTheLowBits);
    Check.sentence("the fold taken before the mixing back", ExtractTest::foldIsTakenBeforeMixingBack);
    Check.sentence("as a non-negative long in 0 .. 2^bits - 1.", ExtractTest::answerIsInRange);
    Check.sentence("For bits equal to 32, the answer is all 32 bits of f read as an unsigned number, in 0 .. 4294967295.", ExtractTest::thirtyTwoBitsAreUnsigned);
    Check.sentence("A negative f thus gives a large positive answer, never a negative one.", ExtractTest::negativeFoldGivesLargeAnswer);
    Check.sentence("For smaller bits, the higher bits of f are dropped.", ExtractTest::higherBitsAreDropped);
    Check.sentence("with bits 1, the answer is the lowest bit of f, 0 or 1.", ExtractTest::oneBitIsTheLowest);
    Check.sentence("When the credit equals bits exactly, the extraction succeeds and leaves the credit at 0.", ExtractTest::exactCreditIsEnough);
    Check.sentence("On a successful call, the answer is never negative, so it cannot be confused with -1 or -2.", ExtractTest::successIsNeverNegative);
    Check.sentence("on the two refusals, nothing at all.", ExtractTest::manyRefusalsChangeNothing);
    Check.sentence("On success, only the credit decreases, by exactly bits, and the cursor, rot and one cell change.", ExtractTest::successChangesOneCell);
    Check.sentence("The other 15 cells keep their values.", ExtractTest::otherCellsKeepTheirValues);
    Check.end();
  }

  /** A pool whose one word, stored at rot 0, is the fold. */
  private static EntropyPool poolOfFold(int fold, int credit) {
    EntropyPool pool = new EntropyPool();
    pool.mix(fold);
    pool.credit(credit);
    return pool;
  }

  private static EntropyPool poolOfCredit(int credit) {
    return poolOfFold(-1, credit);
  }

  /** Both conditions apply to 33 bits at a credit of 32 or less, so only the order tells -2 from -1. */
  private static void rangeComesBeforeCredit() {
    for (int credit = 0; credit <= 32; credit++) {
      for (int bits : TOO_LARGE) {
        Check.due("extract(" + bits + ") at credit " + credit, poolOfCredit(credit).extract(bits), -2);
      }
    }
  }

  private static void tooFewBitsAreRefused() {
    for (Model before : Pools.edgeStates()) {
      for (int bits : TOO_SMALL) {
        Check.unchanged(before, "extract(" + bits + ")", pool -> pool.extract(bits), -2);
      }
    }
    Check.due("extract(1), the least that is not too small", poolOfCredit(1).extract(1), 1);
  }

  private static void tooManyBitsAreRefused() {
    for (Model before : Pools.edgeStates()) {
      for (int bits : TOO_LARGE) {
        Check.unchanged(before, "extract(" + bits + ")", pool -> pool.extract(bits), -2);
      }
    }
    Check.due("extract(32), the greatest that is not too large", poolOfCredit(32).extract(32), 4294967295L);
  }

  private static void rangeIsRefusedAtEveryCredit() {
    for (int credit = 0; credit <= 512; credit++) {
      EntropyPool pool = poolOfCredit(credit);
      for (int bits : new int[] {0, -1, 33, 512, credit + 33, -credit, Integer.MIN_VALUE, Integer.MAX_VALUE}) {
        Check.due("extract(" + bits + ") at credit " + credit, pool.extract(bits), -2);
        Check.due("available() behind it", pool.available(), credit);
      }
    }
  }

  private static void examplesOfTheRange() {
    for (int bits : new int[] {0, 33, -1, Integer.MIN_VALUE}) {
      Check.due("new: extract(" + bits + ")", new EntropyPool().extract(bits), -2);
      Check.due("credit 0: extract(" + bits + ")", poolOfCredit(0).extract(bits), -2);
    }
  }

  private static void moreThanTheCreditIsRefused() {
    for (int bits = 1; bits <= 32; bits++) {
      for (int credit = 0; credit < bits; credit++) {
        int asked = bits;
        for (int cursor : new int[] {0, 1, 15}) {
          Check.unchanged(Model.filled(cursor, 18, credit), "extract(" + bits + ")", pool -> pool.extract(asked), -1);
        }
      }
    }
  }

  private static void emptyCreditRefusesAll() {
    EntropyPool drained = poolOfCredit(64);
    drained.extract(32);
    drained.extract(32);
    for (int bits = 1; bits <= 32; bits++) {
      Check.due("drained: extract(" + bits + ")", drained.extract(bits), -1);
      Check.due("drained: available()", drained.available(), 0);
    }
  }

  private static void foldIsOfAllCells() {
    for (int cell = 0; cell < 16; cell++) {
      for (int cursor = 0; cursor < 16; cursor++) {
        Model alone = Model.empty(cursor, 12, 32).withCell(cell, 0x70000001 + cell);
        Check.due("cell " + cell + " alone, cursor " + cursor + ": extract(32)", Pools.in(alone).extract(32), 0x70000001L + cell);
        Model twice = alone.withCell((cell + 5) % 16, 0x70000001 + cell);
        Check.due("two cells alike, cursor " + cursor + ": extract(32)", Pools.in(twice).extract(32), 0);
      }
    }
    Model bitForEachCell = Model.empty(0, 12, 32);
    for (int cell = 0; cell < 16; cell++) {
      bitForEachCell.cells[cell] = 1 << (2 * cell);
    }
    Check.due("a bit for each cell: extract(32)", Pools.in(bitForEachCell).extract(32), 0x55555555L);
  }

  private static void creditGoesDownByBits() {
    for (int credit = 1; credit <= 512; credit++) {
      for (int bits = 1; bits <= 32 && bits <= credit; bits++) {
        EntropyPool pool = poolOfCredit(credit);
        pool.extract(bits);
        Check.due("available() behind extract(" + bits + ") at credit " + credit, pool.available(), credit - bits);
      }
    }
    EntropyPool drained = poolOfCredit(512);
    for (int left = 480; left >= 0; left -= 32) {
      drained.extract(32);
      Check.due("available() of the pool that is drained", drained.available(), left);
    }
  }

  private static void foldIsMixedBack() {
    for (int cursor = 0; cursor < 16; cursor++) {
      for (int rot = 0; rot < 32; rot++) {
        for (int bits : new int[] {1, 31, 32}) {
          Model before = Model.filled(cursor, rot, 32);
          EntropyPool mixed = Pools.in(before.withCredit(32 - bits));
          mixed.mix(before.fold());
          EntropyPool extracted = Pools.in(before);
          extracted.extract(bits);
          String when = "behind extract(" + bits + ") as behind mix(f), from " + before;
          Check.sameState(when, Pools.seenIn(extracted), Pools.seenIn(mixed));
        }
      }
    }
  }

  /** Cell 9 alone is not 0, which is no tap of cells 0 and 15 nor of 7: the stored value is f turned. */
  private static void mixingBackStepByStep() {
    int fold = 0x80000001;
    Model towardSeven = Model.empty(8, 1, 40).withCell(9, fold);
    Check.call(towardSeven, "extract(32)", pool -> pool.extract(32), 0x80000001L, Model.empty(7, 8, 8).withCell(9, fold).withCell(7, 3));
    Model towardZero = Model.empty(1, 18, 32).withCell(9, fold);
    Check.call(towardZero, "extract(1)", pool -> pool.extract(1), 1, Model.empty(0, 0, 31).withCell(9, fold).withCell(0, 0x60000));
    Model towardFifteen = Model.empty(0, 31, 2).withCell(9, fold);
    Check.call(towardFifteen, "extract(2)", pool -> pool.extract(2), 1, Model.empty(15, 6, 0).withCell(9, fold).withCell(15, 0xC0000000));
    // Cell 5 is a tap of cell 15, so f xor the tap is left; at rot 0 they are the same.
    Model withTap = Model.empty(0, 0, 8).withCell(5, fold);
    Check.call(withTap, "extract(8)", pool -> pool.extract(8), 1, Model.empty(15, 7, 0).withCell(5, fold));
  }

  private static void mixingBackLeavesTheCredit() {
    for (int fold : FOLDS) {
      for (int credit : new int[] {32, 33, 511, 512}) {
        EntropyPool pool = poolOfFold(fold, credit);
        pool.extract(32);
        Check.due("fold " + fold + ", credit " + credit + ": available() behind extract(32)", pool.available(), credit - 32);
      }
    }
  }

  private static void answerIsTheLowBits() {
    for (int fold : FOLDS) {
      for (int bits = 1; bits <= 32; bits++) {
        long want = Integer.toUnsignedLong(fold) % (1L << bits);
        Check.due("fold " + fold + ": extract(" + bits + ")", poolOfFold(fold, 512).extract(bits), want);
      }
    }
    int[] lowBits = {0, 0, 0, 8, 24, 56, 120, 120, 120, 632, 1656, 1656, 5752};
    for (int bits = 1; bits <= lowBits.length; bits++) {
      Check.due("fold 0x12345678: extract(" + bits + ")", poolOfFold(0x12345678, 40).extract(bits), lowBits[bits - 1]);
    }
  }

  private static void foldIsTakenBeforeMixingBack() {
    EntropyPool pool = poolOfFold(7, 64);
    Check.due("fold 7: extract(32)", pool.extract(32), 7);
    // 7 went back rotated by 7, that is 896, with cell 15 as its tap: cell 14 is 903.
    Check.due("then extract(32)", pool.extract(32), 7 ^ 903);
  }

  private static void answerIsInRange() {
    for (int fold : FOLDS) {
      for (int bits = 1; bits <= 32; bits++) {
        long answer = poolOfFold(fold, 32).extract(bits);
        Check.isTrue("fold " + fold + ": extract(" + bits + ") is in range: " + answer, answer >= 0 && answer < 1L << bits);
      }
    }
    for (int bits = 1; bits <= 32; bits++) {
      Check.due("the greatest answer to extract(" + bits + ")", poolOfFold(-1, 32).extract(bits), (1L << bits) - 1);
      Check.due("the least answer to extract(" + bits + ")", poolOfFold(0, 32).extract(bits), 0);
    }
  }

  private static void thirtyTwoBitsAreUnsigned() {
    Check.due("fold 0: extract(32)", poolOfFold(0, 32).extract(32), 0);
    Check.due("fold 1: extract(32)", poolOfFold(1, 32).extract(32), 1);
    Check.due("fold MAX_VALUE: extract(32)", poolOfFold(Integer.MAX_VALUE, 32).extract(32), 2147483647L);
    Check.due("fold MIN_VALUE: extract(32)", poolOfFold(Integer.MIN_VALUE, 32).extract(32), 2147483648L);
    Check.due("fold -1: extract(32)", poolOfFold(-1, 32).extract(32), 4294967295L);
  }

  private static void negativeFoldGivesLargeAnswer() {
    for (int fold : new int[] {-1, -2, -512, -123456789, Integer.MIN_VALUE + 1, Integer.MIN_VALUE}) {
      Check.due("fold " + fold + ": extract(32)", poolOfFold(fold, 32).extract(32), fold + 4294967296L);
    }
  }

  private static void higherBitsAreDropped() {
    for (int bits = 1; bits <= 31; bits++) {
      for (int higher = bits; higher <= 31; higher++) {
        Check.due("fold 2^" + higher + ": extract(" + bits + ")", poolOfFold(1 << higher, 32).extract(bits), 0);
        Check.due("fold 2^" + higher + " and 1: extract(" + bits + ")", poolOfFold(1 << higher | 1, 32).extract(bits), 1);
      }
    }
    Check.due("fold -1: extract(31)", poolOfFold(-1, 32).extract(31), 2147483647L);
  }

  private static void oneBitIsTheLowest() {
    for (int fold : FOLDS) {
      Check.due("fold " + fold + ": extract(1)", poolOfFold(fold, 32).extract(1), fold & 1);
    }
  }

  private static void exactCreditIsEnough() {
    for (int bits = 1; bits <= 32; bits++) {
      EntropyPool pool = poolOfCredit(bits);
      Check.due("extract(" + bits + ") at credit " + bits, pool.extract(bits), (1L << bits) - 1);
      Check.due("available() behind it", pool.available(), 0);
      Check.due("extract(1) behind it", pool.extract(1), -1);
    }
  }

  private static void successIsNeverNegative() {
    for (int start = 1; start <= 64; start++) {
      EntropyPool pool = new EntropyPool();
      for (int i = 0; i < start; i++) {
        pool.mix(~i * 0x9E3779B9);
      }
      for (int i = 0; i < 64; i++) {
        int bits = 1 + (start + i) % 32;
        pool.credit(bits);
        Check.isTrue("extract(" + bits + ") with credit is 0 or more", pool.extract(bits) >= 0);
      }
    }
  }

  private static void manyRefusalsChangeNothing() {
    for (int cursor : new int[] {0, 1, 15}) {
      Model before = Model.filled(cursor, 25, 31);
      EntropyPool pool = Pools.in(before);
      // An odd number of rounds, lest a fault that comes and goes be gone again at the end.
      for (int i = 0; i < 101; i++) {
        for (int bits : TOO_SMALL) {
          Check.due("extract(" + bits + ")", pool.extract(bits), -2);
        }
        for (int bits : TOO_LARGE) {
          Check.due("extract(" + bits + ")", pool.extract(bits), -2);
        }
        Check.due("extract(32) at credit 31", pool.extract(32), -1);
      }
      Check.sameState("behind all refusals", Pools.seenIn(pool), before);
    }
  }

  private static void successChangesOneCell() {
    for (Model before : Pools.edgeStates()) {
      for (int bits = 1; bits <= 32 && bits <= before.credit; bits++) {
        int asked = bits;
        Model after = before.withCredit(before.credit - bits);
        after.mix(before.fold());
        long answer = Integer.toUnsignedLong(before.fold()) % (1L << bits);
        Check.call(before, "extract(" + bits + ")", pool -> pool.extract(asked), answer, after);
      }
    }
  }

  private static void otherCellsKeepTheirValues() {
    for (int c = 0; c < 16; c++) {
      Model before = Model.filled((c + 1) % 16, 11, 32);
      EntropyPool pool = Pools.in(before);
      pool.extract(32);
      Model seen = Pools.seenIn(pool);
      for (int i = 0; i < 16; i++) {
        if (i != c) {
          Check.due("cell " + i + " behind extract(32) into cell " + c, seen.cells[i], before.cells[i]);
        }
      }
    }
  }
}
