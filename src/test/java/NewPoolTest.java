/** Promise 1, sentence by sentence. */
public final class NewPoolTest {
  public static void main(String[] args) {
    Check.sentence("all 16 cells are 0", NewPoolTest::cellsAreZero);
    Check.sentence("the cursor is 0", NewPoolTest::cursorIsZero);
    Check.sentence("rot is 0", NewPoolTest::rotIsZero);
    Check.sentence("the credit is 0", NewPoolTest::creditIsZero);
    Check.sentence("So available() on a new pool answers 0.", NewPoolTest::availableAnswersZero);
    Check.sentence("Any extract on a new pool answers -2 (for bits outside 1..32)", NewPoolTest::extractOutOfRange);
    Check.sentence("or -1 (for bits in 1..32, since the credit 0 is below every such bits).", NewPoolTest::extractInRange);
    Check.sentence("Separate pools share no state.", NewPoolTest::poolsShareNoState);
    Check.sentence("Separate pools share no state (taking turns).", NewPoolTest::poolsInTurnsAnswerAsAlone);
    Check.end();
  }

  private static void cellsAreZero() {
    Model seen = Pools.seenIn(new EntropyPool());
    for (int i = 0; i < 16; i++) {
      Check.due("new: cell " + i, seen.cells[i], 0);
    }
    EntropyPool mixed = new EntropyPool();
    for (int i = 0; i < 64; i++) {
      Check.due("new: mix(0), call " + (i + 1), mixed.mix(0), 0);
    }
    EntropyPool folded = new EntropyPool();
    folded.credit(512);
    for (int i = 0; i < 16; i++) {
      Check.due("new, credited: extract(32), call " + (i + 1), folded.extract(32), 0);
    }
  }

  private static void cursorIsZero() {
    Check.due("new: cursor", Pools.seenIn(new EntropyPool()).cursor, 0);
    // Without the reading tool: the step of 14 comes with the 16th step, from rot 9 to rot 23.
    int[] rots = {0, 7, 14, 21, 28, 3, 10, 17, 24, 31, 6, 13, 20, 27, 2, 9, 23, 30};
    for (int steps = 0; steps < rots.length; steps++) {
      EntropyPool pool = new EntropyPool();
      for (int i = 0; i < steps; i++) {
        pool.mix(0);
      }
      Check.due("new, " + steps + " times mix(0): mix(1)", pool.mix(1), 1 << rots[steps]);
    }
  }

  private static void rotIsZero() {
    Check.due("new: rot", Pools.seenIn(new EntropyPool()).rot, 0);
    Check.due("new: mix(1)", new EntropyPool().mix(1), 1);
  }

  private static void creditIsZero() {
    Check.due("new: credit", Pools.seenIn(new EntropyPool()).credit, 0);
    Check.due("new: credit(0)", new EntropyPool().credit(0), 0);
    Check.due("new: credit(1)", new EntropyPool().credit(1), 1);
  }

  private static void availableAnswersZero() {
    Check.due("new: available()", new EntropyPool().available(), 0);
  }

  private static void extractOutOfRange() {
    for (int bits : new int[] {0, -1, -2, -32, 33, 34, 64, 65, 512, Integer.MIN_VALUE, Integer.MAX_VALUE}) {
      EntropyPool pool = new EntropyPool();
      Check.due("new: extract(" + bits + ")", pool.extract(bits), -2);
      Check.sameState("new, behind extract(" + bits + ")", Pools.seenIn(pool), new Model());
    }
  }

  private static void extractInRange() {
    for (int bits = 1; bits <= 32; bits++) {
      EntropyPool pool = new EntropyPool();
      Check.due("new: extract(" + bits + ")", pool.extract(bits), -1);
      Check.sameState("new, behind extract(" + bits + ")", Pools.seenIn(pool), new Model());
    }
  }

  private static void poolsShareNoState() {
    EntropyPool older = new EntropyPool();
    EntropyPool used = new EntropyPool();
    Model model = new Model();
    for (int i = 0; i < 20; i++) {
      used.mix(12345 + i);
      model.mix(12345 + i);
    }
    used.credit(100);
    model.credit(100);
    used.extract(9);
    model.extract(9);
    EntropyPool newer = new EntropyPool();
    Check.sameState("a pool made before the used one", Pools.seenIn(older), new Model());
    Check.sameState("a pool made behind the used one", Pools.seenIn(newer), new Model());
    Check.sameState("the used pool itself", Pools.seenIn(used), model);
  }

  private static void poolsInTurnsAnswerAsAlone() {
    EntropyPool first = new EntropyPool();
    EntropyPool second = new EntropyPool();
    Model firstAlone = new Model();
    Model secondAlone = new Model();
    for (int i = 1; i <= 40; i++) {
      Check.due("first: mix(" + i + ")", first.mix(i), firstAlone.mix(i));
      Check.due("second: mix(" + -i + ")", second.mix(-i), secondAlone.mix(-i));
      Check.due("first: credit(3)", first.credit(3), firstAlone.credit(3));
      Check.due("second: credit(20)", second.credit(20), secondAlone.credit(20));
      Check.due("first: extract(5)", first.extract(5), firstAlone.extract(5));
      Check.due("second: extract(7)", second.extract(7), secondAlone.extract(7));
    }
  }
}
