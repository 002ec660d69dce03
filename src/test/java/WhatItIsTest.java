/** What stands above the promises, under "What it is", sentence by sentence; FaceTest has the rest. */
public final class WhatItIsTest {
  public static void main(String[] args) {
    Check.sentence("16 int cells, numbered 0 to 15", WhatItIsTest::sixteenCellsHoldTheirValues);
    Check.sentence("a write cursor, always in 0..15", WhatItIsTest::cursorGoesRound);
    Check.sentence("a rotation amount rot, always in 0..31", WhatItIsTest::rotGoesRound);
    Check.sentence("an entropy credit counted in bits, always in 0..512.", WhatItIsTest::creditStaysInRange);
    Check.sentence("All index arithmetic on cells is modulo 16.", WhatItIsTest::longRunOfStepsKeepsToTheCells);
    Check.sentence("All arithmetic on rot is modulo 32.", WhatItIsTest::everyPairOfCursorAndRotComes);
    Check.end();
  }

  private static void sixteenCellsHoldTheirValues() {
    for (int cell = 0; cell < 16; cell++) {
      for (int value : new int[] {1, -1, Integer.MIN_VALUE, Integer.MAX_VALUE}) {
        Model want = Model.empty(0, 0, 0).withCell(cell, value);
        Check.sameState("cell " + cell + " of " + value, Pools.seenIn(Pools.in(want)), want);
      }
    }
  }

  private static EntropyPool afterZeros(int steps) {
    EntropyPool pool = new EntropyPool();
    for (int i = 0; i < steps; i++) {
      pool.mix(0);
    }
    return pool;
  }

  private static void cursorGoesRound() {
    for (int steps = 0; steps <= 600; steps++) {
      Check.due("cursor behind " + steps + " steps", Pools.seenIn(afterZeros(steps)).cursor, (16 - steps % 16) % 16);
    }
  }

  private static void rotGoesRound() {
    int rot = 0;
    for (int steps = 0; steps <= 600; steps++) {
      Check.due("rot behind " + steps + " steps", Pools.seenIn(afterZeros(steps)).rot, rot);
      rot += (steps + 1) % 16 == 0 ? 14 : 7;
      rot = rot > 31 ? rot - 32 : rot;
    }
  }

  private static void creditStaysInRange() {
    EntropyPool pool = new EntropyPool();
    int[] credits = {Integer.MAX_VALUE, -1, 512, 0, Integer.MIN_VALUE, 513, 1, -512, 31};
    int[] extracts = {32, 33, 0, 31, Integer.MAX_VALUE, 1, -1, Integer.MIN_VALUE};
    for (int i = 0; i < 5000; i++) {
      // More extractions than credits, so that both ends are met.
      if (i % 40 == 0) {
        pool.credit(credits[i / 40 % credits.length]);
      }
      pool.extract(extracts[i % extracts.length]);
      int credit = pool.available();
      Check.isTrue("the credit is in 0..512: " + credit, credit >= 0 && credit <= 512);
    }
  }

  /** A million steps: an index or a rot that only seems to wrap would leave its range long before. */
  private static void longRunOfStepsKeepsToTheCells() {
    EntropyPool pool = new EntropyPool();
    Model model = new Model();
    for (int i = 0; i < 1000000; i++) {
      Check.due("mix, step " + (i + 1), pool.mix(i * 0x9E3779B9), model.mix(i * 0x9E3779B9));
    }
    Check.sameState("behind a million steps", Pools.seenIn(pool), model);
  }

  private static void everyPairOfCursorAndRotComes() {
    boolean[] met = new boolean[16 * 32];
    for (int steps = 0; steps < 512; steps++) {
      Model seen = Pools.seenIn(afterZeros(steps));
      boolean inRange = seen.cursor >= 0 && seen.cursor <= 15 && seen.rot >= 0 && seen.rot <= 31;
      Check.isTrue("cursor and rot are in range behind " + steps + " steps", inRange);
      if (inRange) {
        Check.isTrue("the pair behind " + steps + " steps is new", !met[seen.cursor * 32 + seen.rot]);
        met[seen.cursor * 32 + seen.rot] = true;
      }
    }
    Check.sameState("behind 512 words of 0, all is as at the start", Pools.seenIn(afterZeros(512)), new Model());
  }
}
