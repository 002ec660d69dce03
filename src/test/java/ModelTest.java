/** All promises at once: long runs of mixed calls against a second writing of the document. */
public final class ModelTest {
  private static final int[] WORDS = {0, 1, -1, 5, Integer.MIN_VALUE, Integer.MAX_VALUE, 0x0F0F0F0F};
  private static final int[] CREDITS = {0, 1, 7, 31, 32, 33, 200, 512, 513, -1, Integer.MIN_VALUE, Integer.MAX_VALUE};
  private static final int[] EXTRACTS = {1, 2, 8, 16, 31, 32, 0, 33, -1, Integer.MIN_VALUE, Integer.MAX_VALUE};

  private static long seed;

  public static void main(String[] args) {
    for (int run = 1; run <= 400; run++) {
      // A fixed seed for each run, so that a failing run can be had again.
      seed = run;
      compareRun(run, 400);
    }
    Check.end();
  }

  private static int next() {
    seed = seed * 6364136223846793005L + 1442695040888963407L;
    return (int) (seed >>> 32);
  }

  private static int below(int bound) {
    return Math.floorMod(next(), bound);
  }

  private static int pick(int[] edges, int ordinary) {
    return below(3) == 0 ? edges[below(edges.length)] : ordinary;
  }

  private static void compareRun(int run, int calls) {
    EntropyPool pool = new EntropyPool();
    Model model = new Model();
    for (int i = 1; i <= calls; i++) {
      String where = "run " + run + ", call " + i + ": ";
      int kind = below(10);
      if (kind < 4) {
        int word = pick(WORDS, next());
        Check.due(where + "mix(" + word + ")", pool.mix(word), model.mix(word));
      } else if (kind < 6) {
        int bits = pick(CREDITS, below(60));
        Check.due(where + "credit(" + bits + ")", pool.credit(bits), model.credit(bits));
      } else if (kind < 9) {
        int bits = pick(EXTRACTS, 1 + below(32));
        Check.due(where + "extract(" + bits + ")", pool.extract(bits), model.extract(bits));
      } else {
        Check.due(where + "available()", pool.available(), model.credit);
      }
    }
  }
}
