import java.util.function.ToLongFunction;

/** What the tests share: a test for each sentence of the document, and counting wrong answers. */
final class Check {
  private static int answers = 0;
  private static int wrong = 0;

  private Check() {}

  /** Runs the test of one sentence of the document. A test that asks nothing is wrong, too. */
  static void sentence(String text, Runnable test) {
    int answersBefore = answers;
    int wrongBefore = wrong;
    test.run();
    isTrue("the test asks something", answers > answersBefore);
    if (wrong > wrongBefore) {
      System.out.println("BROKEN: " + text);
    }
  }

  static void due(String call, long got, long want) {
    answers++;
    if (got != want) {
      wrong++;
      System.out.println(call + " answered " + got + ", due is " + want);
    }
  }

  static void isTrue(String claim, boolean holds) {
    answers++;
    if (!holds) {
      wrong++;
      System.out.println("does not hold: " + claim);
    }
  }

  /** One call on a pool in the state before: what it answers, and the whole state behind it. */
  static void call(Model before, String call, ToLongFunction<EntropyPool> asked, long answer, Model after) {
    EntropyPool pool = Pools.in(before);
    due(call + " at " + before, asked.applyAsLong(pool), answer);
    sameState("behind " + call + " at " + before, Pools.seenIn(pool), after);
  }

  /** A call that answers and changes nothing: cells, cursor, rot and credit. */
  static void unchanged(Model before, String call, ToLongFunction<EntropyPool> asked, long answer) {
    call(before, call, asked, answer, before);
  }

  static void sameState(String when, Model got, Model want) {
    due(when + ": credit", got.credit, want.credit);
    due(when + ": cursor", got.cursor, want.cursor);
    due(when + ": rot", got.rot, want.rot);
    for (int i = 0; i < 16; i++) {
      due(when + ": cell " + i, got.cells[i], want.cells[i]);
    }
  }

  static void end() {
    System.out.println(wrong == 0 ? answers + " answers are as due" : wrong + " of " + answers + " answers are not as due");
    if (wrong != 0) {
      System.exit(1);
    }
  }
}
