/** Promise 1. */
public final class NewPoolTest {
  public static void main(String[] args) {
    creditIsZero();
    extractIsRefused();
    cellsAreZero();
    foldIsZero();
    cursorAndRotAreZero();
    poolsShareNothing();
    interleavedPoolsAnswerAsAlone();
    Check.end();
  }

  private static void creditIsZero() {
    Check.due("new: available()", new EntropyPool().available(), 0);
    Check.due("new: credit(0)", new EntropyPool().credit(0), 0);
  }

  private static void extractIsRefused() {
    for (int bits = 1; bits <= 32; bits++) {
      Check.due("new: extract(" + bits + ")", new EntropyPool().extract(bits), -1);
    }
    for (int bits : new int[] {0, -1, 33, 34, 64, Integer.MIN_VALUE, Integer.MAX_VALUE}) {
      Check.due("new: extract(" + bits + ")", new EntropyPool().extract(bits), -2);
    }
  }

  private static void cellsAreZero() {
    EntropyPool pool = new EntropyPool();
    for (int i = 0; i < 64; i++) {
      Check.due("new: mix(0), call " + (i + 1), pool.mix(0), 0);
    }
  }

  private static void foldIsZero() {
    EntropyPool pool = new EntropyPool();
    pool.credit(512);
    for (int i = 0; i < 16; i++) {
      Check.due("new, credited: extract(32), call " + (i + 1), pool.extract(32), 0);
    }
  }

  /** With the cells at 0, words of 0 move only the cursor and rot, and one word 1 then shows rot. */
  private static void cursorAndRotAreZero() {
    int[] rots = {
      0, 7, 14, 21, 28, 3, 10, 17, 24, 31, 6, 13, 20, 27, 2, 9, 23, 30, 5, 12, 19, 26, 1, 8, 15, 22, 29, 4, 11, 18, 25, 0, 14
    };
    for (int steps = 0; steps < rots.length; steps++) {
      EntropyPool pool = new EntropyPool();
      for (int i = 0; i < steps; i++) {
        pool.mix(0);
      }
      Check.due("new, " + steps + " times mix(0): mix(1)", pool.mix(1), 1 << rots[steps]);
    }
  }

  private static void poolsShareNothing() {
    EntropyPool used = new EntropyPool();
    EntropyPool older = new EntropyPool();
    for (int i = 0; i < 20; i++) {
      used.mix(12345 + i);
    }
    used.credit(100);
    used.extract(9);
    Check.due("the used pool: available()", used.available(), 91);
    Check.due("a pool made before: available()", older.available(), 0);
    Check.due("a pool made after: available()", new EntropyPool().available(), 0);
    Check.due("a pool made before: mix(5)", older.mix(5), 5);
    Check.due("a pool made after: mix(5)", new EntropyPool().mix(5), 5);
    Check.due("the used pool still: available()", used.available(), 91);
  }

  /** Taking turns would show a cell, cursor or rot that two pools share. */
  private static void interleavedPoolsAnswerAsAlone() {
    int[] alone = new int[40];
    EntropyPool single = new EntropyPool();
    for (int i = 0; i < alone.length; i++) {
      alone[i] = single.mix(i + 1);
    }
    EntropyPool first = new EntropyPool();
    EntropyPool second = new EntropyPool();
    for (int i = 0; i < alone.length; i++) {
      Check.due("the first of two pools: mix(" + (i + 1) + ")", first.mix(i + 1), alone[i]);
      Check.due("the second of two pools: mix(" + (i + 1) + ")", second.mix(i + 1), alone[i]);
    }
  }
}
