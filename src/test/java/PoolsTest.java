/** The tests' own tools: a state that is put into a pool is the state that is read from it. */
public final class PoolsTest {
  public static void main(String[] args) {
    everyCursorAndRot();
    everyCredit();
    everyCellAlone();
    sameAnswersAsTheModel();
    Check.end();
  }

  private static void readsBack(Model state) {
    Check.sameState("put in and read: " + state, Pools.seenIn(Pools.in(state)), state);
  }

  private static void everyCursorAndRot() {
    for (int cursor = 0; cursor < 16; cursor++) {
      for (int rot = 0; rot < 32; rot++) {
        readsBack(Model.empty(cursor, rot, 0));
        readsBack(Model.filled(cursor, rot, 512));
      }
    }
  }

  private static void everyCredit() {
    for (int credit = 0; credit <= 512; credit++) {
      readsBack(Model.filled(3, 4, credit));
    }
  }

  private static void everyCellAlone() {
    for (int cell = 0; cell < 16; cell++) {
      for (int value : new int[] {1, -1, Integer.MIN_VALUE, Integer.MAX_VALUE}) {
        readsBack(Model.empty(cell, 9, 1).withCell(cell, value));
        readsBack(Model.empty(0, 0, 1).withCell(cell, value));
      }
    }
  }

  /** Reading is not only the backward way of putting in: calls from a new pool are read as well. */
  private static void sameAnswersAsTheModel() {
    for (int calls = 0; calls <= 70; calls++) {
      EntropyPool pool = new EntropyPool();
      Model model = new Model();
      for (int i = 0; i < calls; i++) {
        Check.due("mix", pool.mix(i * 7919 - 40), model.mix(i * 7919 - 40));
        Check.due("credit", pool.credit(i), model.credit(i));
        Check.due("extract", pool.extract(i % 40), model.extract(i % 40));
      }
      Check.sameState("behind " + calls + " rounds of calls", Pools.seenIn(pool), model);
    }
  }
}
