/** Promise 5. */
public final class AvailableTest {
  public static void main(String[] args) {
    reportsEveryCredit();
    followsTheCredit();
    changesNothing();
    Check.end();
  }

  private static void reportsEveryCredit() {
    EntropyPool pool = new EntropyPool();
    for (int bits = 0; bits <= 512; bits++) {
      Check.due("available()", pool.available(), bits);
      pool.credit(1);
    }
    Check.due("available() at the top", pool.available(), 512);
  }

  private static void followsTheCredit() {
    EntropyPool pool = new EntropyPool();
    pool.credit(40);
    pool.mix(-3);
    Check.due("available() behind mix", pool.available(), 40);
    pool.extract(32);
    Check.due("available() behind extract(32)", pool.available(), 8);
    pool.extract(9);
    Check.due("available() behind a refused extract(9)", pool.available(), 8);
    pool.extract(0);
    Check.due("available() behind a refused extract(0)", pool.available(), 8);
    pool.credit(-8);
    Check.due("available() behind a refused credit(-8)", pool.available(), 8);
    pool.extract(8);
    Check.due("available() behind extract(8)", pool.available(), 0);
    pool.credit(Integer.MAX_VALUE);
    Check.due("available() behind credit(Integer.MAX_VALUE)", pool.available(), 512);
  }

  private static void changesNothing() {
    for (int steps = 0; steps <= 34; steps++) {
      EntropyPool asked = usedPool(steps);
      for (int i = 0; i < 1000; i++) {
        Check.due("available() again", asked.available(), 77);
      }
      Check.sameState("behind available(), " + steps + " words", asked, usedPool(steps));
    }
  }

  private static EntropyPool usedPool(int steps) {
    EntropyPool pool = new EntropyPool();
    pool.credit(77);
    for (int i = 0; i < steps; i++) {
      pool.mix(i * 104729 + 1);
    }
    return pool;
  }
}
