/** Promise 2, sentence by sentence. */
public final class MixTest {
  private static final int[] WORDS = {
    0, 1, -1, 2, -2, 5, Integer.MIN_VALUE, Integer.MIN_VALUE + 1, Integer.MAX_VALUE, Integer.MAX_VALUE - 1, 0x55555555, 0xAAAAAAAA
  };

  /** The cells c, c+1, c+6 and c+11 modulo 16, written out: row c. */
  private static final int[][] TAPS = {
    {0, 1, 6, 11},
    {1, 2, 7, 12},
    {2, 3, 8, 13},
    {3, 4, 9, 14},
    {4, 5, 10, 15},
    {5, 6, 11, 0},
    {6, 7, 12, 1},
    {7, 8, 13, 2},
    {8, 9, 14, 3},
    {9, 10, 15, 4},
    {10, 11, 0, 5},
    {11, 12, 1, 6},
    {12, 13, 2, 7},
    {13, 14, 3, 8},
    {14, 15, 4, 9},
    {15, 0, 5, 10},
  };

  public static void main(String[] args) {
    Check.sentence("accepts every int value, including 0, negative values, MIN_VALUE and MAX_VALUE. Nothing is refused.", MixTest::everyWordIsTaken);
    Check.sentence("w is word rotated left by the present rot (the value before this call, in 0..31).", MixTest::wordTurnsByPresentRot);
    Check.sentence("the bits pushed out at the top come back in at the bottom", MixTest::bitsComeBackAtTheBottom);
    Check.sentence("With rot equal to 0, w is word itself.", MixTest::rotZeroLeavesTheWord);
    Check.sentence("cursor c becomes c - 1", MixTest::cursorMovesDown);
    Check.sentence("and 0 becomes 15.", MixTest::cursorWrapsToFifteen);
    Check.sentence("If the new cursor (after step 2) is 0, rot becomes (rot + 14) mod 32.", MixTest::rotStepsByFourteenAtCellZero);
    Check.sentence("Otherwise rot becomes (rot + 7) mod 32.", MixTest::rotStepsBySevenElsewhere);
    Check.sentence("rot stays in 0..31.", MixTest::rotWrapsAround);
    Check.sentence("cell c becomes w xor cell[c] xor cell[c+1] xor cell[c+6] xor cell[c+11]", MixTest::storeIsXorOfWordAndTaps);
    Check.sentence("all indexes taken modulo 16.", MixTest::tapsWrapAround);
    Check.sentence("the old value of cell c takes part in its own new value.", MixTest::oldValueTakesPart);
    Check.sentence("Answer: the value just stored in cell c.", MixTest::answerIsTheStoredValue);
    Check.sentence("What changes: the cursor, rot and cell c. What does not change: the other 15 cells and the credit.", MixTest::onlyOneCellChanges);
    Check.sentence("mix never alters the credit, whatever the word.", MixTest::creditIsLeftAlone);
    Check.sentence("every int result is simply a 32-bit pattern, negative values included.", MixTest::resultsMayBeNegative);
    Check.sentence("For example, on a new pool mix(5) ... The answer is 5.", MixTest::firstOfTheExample);
    Check.sentence("A second mix(5) then rotates by 7, moves the cursor to 14 and sets rot to 14.", MixTest::secondOfTheExample);
    Check.sentence("the cursor visits 15, 14, ..., 1, 0, 15, ... on successive mixing steps", MixTest::cursorVisitsAllCellsInTurn);
    Check.sentence("counting both calls to mix and the mixing back done by each successful extract.", MixTest::successfulExtractCounts);
    Check.sentence("The step of 14 for rot applies exactly on the mixing steps that bring the cursor to 0.", MixTest::longStepComesOnceARound);
    Check.sentence("The whole promise, on words of one bit worked out by hand.", MixTest::oneBitByHand);
    Check.end();
  }

  private static EntropyPool afterZeros(int steps) {
    EntropyPool pool = new EntropyPool();
    for (int i = 0; i < steps; i++) {
      pool.mix(0);
    }
    return pool;
  }

  private static void everyWordIsTaken() {
    for (int word : WORDS) {
      Model after = Model.empty(15, 7, 0).withCell(15, word);
      Check.call(new Model(), "mix(" + word + ")", pool -> pool.mix(word), word, after);
      for (Model before : Pools.edgeStates()) {
        Model mixed = before.copy();
        int answer = mixed.mix(word);
        Check.call(before, "mix(" + word + ")", pool -> pool.mix(word), answer, mixed);
      }
    }
  }

  private static void wordTurnsByPresentRot() {
    for (int rot = 0; rot <= 31; rot++) {
      // Towards cell 0 and towards another one: the coming step of rot must not show in w.
      for (int cursor : new int[] {0, 1, 9}) {
        for (int word : WORDS) {
          EntropyPool pool = Pools.in(Model.empty(cursor, rot, 0));
          Check.due("mix(" + word + ") at cursor " + cursor + ", rot " + rot, pool.mix(word), Integer.rotateLeft(word, rot));
        }
      }
    }
  }

  private static void bitsComeBackAtTheBottom() {
    for (int rot = 1; rot <= 31; rot++) {
      Model before = Model.empty(6, rot, 0);
      int lowestPushedOut = 1 << (32 - rot);
      Check.due("mix(" + lowestPushedOut + ") at rot " + rot, Pools.in(before).mix(lowestPushedOut), 1);
      Check.due("mix(MIN_VALUE) at rot " + rot, Pools.in(before).mix(Integer.MIN_VALUE), 1 << (rot - 1));
      Check.due("mix(-1) at rot " + rot, Pools.in(before).mix(-1), -1);
    }
    Check.due("mix(0x80000001) at rot 1", Pools.in(Model.empty(6, 1, 0)).mix(0x80000001), 3);
    Check.due("mix(0x12345678) at rot 28", Pools.in(Model.empty(6, 28, 0)).mix(0x12345678), 0x81234567);
  }

  private static void rotZeroLeavesTheWord() {
    for (int word : WORDS) {
      Check.due("new: mix(" + word + ")", new EntropyPool().mix(word), word);
      for (int cursor = 0; cursor < 16; cursor++) {
        EntropyPool pool = Pools.in(Model.empty(cursor, 0, 0));
        Check.due("mix(" + word + ") at cursor " + cursor + ", rot 0", pool.mix(word), word);
      }
    }
  }

  private static int cursorBehindMix(int cursor, int rot) {
    EntropyPool pool = Pools.in(Model.filled(cursor, rot, 0));
    pool.mix(77);
    return Pools.seenIn(pool).cursor;
  }

  private static void cursorMovesDown() {
    for (int cursor = 1; cursor <= 15; cursor++) {
      for (int rot = 0; rot <= 31; rot++) {
        Check.due("cursor behind mix at cursor " + cursor + ", rot " + rot, cursorBehindMix(cursor, rot), cursor - 1);
      }
    }
  }

  private static void cursorWrapsToFifteen() {
    for (int rot = 0; rot <= 31; rot++) {
      Check.due("cursor behind mix at cursor 0, rot " + rot, cursorBehindMix(0, rot), 15);
    }
  }

  private static int rotBehindMix(int cursor, int rot) {
    EntropyPool pool = Pools.in(Model.filled(cursor, rot, 0));
    pool.mix(-77);
    return Pools.seenIn(pool).rot;
  }

  private static void rotStepsByFourteenAtCellZero() {
    for (int rot = 0; rot <= 31; rot++) {
      Check.due("rot behind mix at cursor 1, rot " + rot, rotBehindMix(1, rot), (rot + 14) % 32);
    }
    // Without the reading tool, which finds the cursor by this very step: 15 steps of 7 come to
    // 105, that is 9 modulo 32, and the 16th, to cell 0, goes on to 23.
    Check.due("mix(1) behind 15 steps", afterZeros(15).mix(1), 1 << 9);
    Check.due("mix(1) behind 16 steps", afterZeros(16).mix(1), 1 << 23);
    Check.due("mix(1) behind 17 steps", afterZeros(17).mix(1), 1 << 30);
  }

  private static void rotStepsBySevenElsewhere() {
    for (int cursor = 0; cursor <= 15; cursor++) {
      for (int rot = 0; rot <= 31 && cursor != 1; rot++) {
        Check.due("rot behind mix at cursor " + cursor + ", rot " + rot, rotBehindMix(cursor, rot), (rot + 7) % 32);
      }
    }
  }

  private static void rotWrapsAround() {
    Check.due("rot behind mix at cursor 9, rot 24, the last that does not wrap", rotBehindMix(9, 24), 31);
    Check.due("rot behind mix at cursor 9, rot 25, which comes to 32", rotBehindMix(9, 25), 0);
    Check.due("rot behind mix at cursor 9, rot 26", rotBehindMix(9, 26), 1);
    Check.due("rot behind mix at cursor 9, rot 31", rotBehindMix(9, 31), 6);
    Check.due("rot behind mix at cursor 1, rot 17, the last that does not wrap", rotBehindMix(1, 17), 31);
    Check.due("rot behind mix at cursor 1, rot 18, which comes to 32", rotBehindMix(1, 18), 0);
    Check.due("rot behind mix at cursor 1, rot 19", rotBehindMix(1, 19), 1);
    Check.due("rot behind mix at cursor 1, rot 31", rotBehindMix(1, 31), 13);
  }

  private static void storeIsXorOfWordAndTaps() {
    for (int c = 0; c < 16; c++) {
      for (int word : WORDS) {
        Model before = Model.filled((c + 1) % 16, 0, 0);
        int want = word;
        for (int tap : TAPS[c]) {
          want ^= before.cells[tap];
        }
        Check.due("mix(" + word + ") into cell " + c, Pools.in(before).mix(word), want);
      }
    }
  }

  /** One cell alone holds something: it shows in the answer if, and only if, it is a tap. */
  private static void tapsWrapAround() {
    for (int c = 0; c < 16; c++) {
      for (int alone = 0; alone < 16; alone++) {
        int want = 0;
        for (int tap : TAPS[c]) {
          if (tap == alone) {
            want = 1000 + alone;
          }
        }
        EntropyPool pool = Pools.in(Model.empty((c + 1) % 16, 20, 0).withCell(alone, 1000 + alone));
        Check.due("mix(0) into cell " + c + " when cell " + alone + " alone is not 0", pool.mix(0), want);
      }
    }
  }

  private static void oldValueTakesPart() {
    for (int c = 0; c < 16; c++) {
      for (int old : WORDS) {
        Model before = Model.empty((c + 1) % 16, 0, 0).withCell(c, old);
        Check.due("mix(0) into cell " + c + " of " + old, Pools.in(before).mix(0), old);
        Check.due("mix(6) into cell " + c + " of " + old, Pools.in(before).mix(6), 6 ^ old);
        Check.due("mix of the same into cell " + c + " of " + old, Pools.in(before).mix(old), 0);
      }
    }
  }

  private static void answerIsTheStoredValue() {
    for (int c = 0; c < 16; c++) {
      for (int word : WORDS) {
        EntropyPool pool = Pools.in(Model.filled((c + 1) % 16, 11, 0));
        int answer = pool.mix(word);
        Check.due("cell " + c + " behind mix(" + word + ")", Pools.seenIn(pool).cells[c], answer);
      }
    }
  }

  private static void onlyOneCellChanges() {
    for (int c = 0; c < 16; c++) {
      for (int word : WORDS) {
        Model before = Model.filled((c + 1) % 16, 11, 300);
        EntropyPool pool = Pools.in(before);
        pool.mix(word);
        Model seen = Pools.seenIn(pool);
        for (int i = 0; i < 16; i++) {
          if (i != c) {
            Check.due("cell " + i + " behind mix(" + word + ") into cell " + c, seen.cells[i], before.cells[i]);
          }
        }
        Check.due("credit behind mix(" + word + ") into cell " + c, seen.credit, 300);
      }
    }
  }

  private static void creditIsLeftAlone() {
    for (int credit : new int[] {0, 1, 31, 32, 255, 511, 512}) {
      EntropyPool pool = new EntropyPool();
      pool.credit(credit);
      for (int round = 0; round < 40; round++) {
        for (int word : WORDS) {
          pool.mix(word);
          Check.due("available() behind mix(" + word + ") at credit " + credit, pool.available(), credit);
        }
      }
    }
  }

  private static void resultsMayBeNegative() {
    Check.due("new: mix(MIN_VALUE)", new EntropyPool().mix(Integer.MIN_VALUE), Integer.MIN_VALUE);
    Check.due("new: mix(-1)", new EntropyPool().mix(-1), -1);
    Check.due("mix(1) at rot 31", Pools.in(Model.empty(4, 31, 0)).mix(1), Integer.MIN_VALUE);
    Check.due("mix(MAX_VALUE) at rot 31", Pools.in(Model.empty(4, 31, 0)).mix(Integer.MAX_VALUE), 0xBFFFFFFF);
    Model before = Model.empty(4, 0, 0).withCell(3, Integer.MIN_VALUE);
    Check.due("mix(MAX_VALUE) into a cell of MIN_VALUE", Pools.in(before).mix(Integer.MAX_VALUE), -1);
    Check.due("mix(MIN_VALUE) into a cell of MIN_VALUE", Pools.in(before).mix(Integer.MIN_VALUE), 0);
    Check.due("mix(-1) into a cell of MIN_VALUE", Pools.in(before).mix(-1), Integer.MAX_VALUE);
  }

  private static void firstOfTheExample() {
    Check.call(new Model(), "mix(5)", pool -> pool.mix(5), 5, Model.empty(15, 7, 0).withCell(15, 5));
  }

  private static void secondOfTheExample() {
    EntropyPool pool = new EntropyPool();
    pool.mix(5);
    // 5 rotated by 7 is 640, and cell 15 is the tap c+1: 640 xor 5.
    Check.due("second mix(5)", pool.mix(5), 645);
    Model want = Model.empty(14, 14, 0).withCell(15, 5).withCell(14, 645);
    Check.sameState("behind the second mix(5)", Pools.seenIn(pool), want);
  }

  private static void cursorVisitsAllCellsInTurn() {
    int[] visited = {15, 14, 13, 12, 11, 10, 9, 8, 7, 6, 5, 4, 3, 2, 1, 0, 15, 14, 13};
    for (int steps = 1; steps <= visited.length; steps++) {
      Check.due("cursor behind " + steps + " mixing steps", Pools.seenIn(afterZeros(steps)).cursor, visited[steps - 1]);
    }
  }

  private static void successfulExtractCounts() {
    for (int steps = 0; steps <= 40; steps++) {
      EntropyPool pool = new EntropyPool();
      for (int i = 0; i < steps; i++) {
        if (i % 3 == 0) {
          pool.mix(i);
        } else {
          // The refused calls in between must not count.
          pool.extract(5);
          pool.credit(5);
          pool.extract(33);
          pool.extract(5);
        }
      }
      Check.due("cursor behind " + steps + " steps of both kinds", Pools.seenIn(pool).cursor, Math.floorMod(-steps, 16));
    }
  }

  /** Through all 512 pairs of cursor and rot, and some steps into the second time. */
  private static void longStepComesOnceARound() {
    for (int steps = 0; steps <= 540; steps++) {
      int want = (7 * steps + 7 * (steps / 16)) % 32;
      Check.due("mix(1) behind " + steps + " times mix(0)", afterZeros(steps).mix(1), 1 << want);
      EntropyPool extracted = new EntropyPool();
      for (int i = 0; i < steps; i++) {
        extracted.credit(1);
        extracted.extract(1);
      }
      Check.due("mix(1) behind " + steps + " times extract(1)", extracted.mix(1), 1 << want);
    }
  }

  /**
   * One bit in cell 15 and words of 0 behind it: a step answers 1 when an odd number of the cells
   * c, c+1, c+6 and c+11 hold the bit. This one leans on no other code of the tests.
   */
  private static void oneBitByHand() {
    int[] due = {
      1, // cell 15, the bit itself
      1, // cell 14: 15
      1, // cell 13: 14
      1, // cell 12: 13
      1, // cell 11: 12
      1, // cell 10: 11, for 0 and 5 are still empty
      0, // cell 9: 10 and 15
      1, // cell 8: 14, for 9 is 0 now
      0, // cell 7: 8 and 13
      1, // cell 6: 12
      0, // cell 5: 6 and 11
      0, // cell 4: 10 and 15, for 5 is 0
      1, // cell 3: 14, for 4 and 9 are 0
      1, // cell 2: 3, 8 and 13
      0, // cell 1: 2 and 12, for 7 is 0
      0, // cell 0: 6 and 11, for 1 is 0
      0, // cell 15 again: its own old value and 10, for 0 and 5 are 0
      1, // cell 14 again: its own old value, for 15, 4 and 9 are 0
    };
    EntropyPool pool = new EntropyPool();
    Check.due("mix(1), step 1", pool.mix(1), due[0]);
    for (int i = 1; i < due.length; i++) {
      Check.due("mix(0), step " + (i + 1), pool.mix(0), due[i]);
    }
  }
}
