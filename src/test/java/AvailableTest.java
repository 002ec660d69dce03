/** Promise 5, sentence by sentence. */
public final class AvailableTest {
  public static void main(String[] args) {
    Check.sentence("available() answers the present credit", AvailableTest::answersThePresentCredit);
    Check.sentence("a value in 0..512 (empty).", AvailableTest::emptyCreditIsZero);
    Check.sentence("a value in 0..512 (full).", AvailableTest::fullCreditIsTheTop);
    Check.sentence("a value in 0..512 (every one).", AvailableTest::everyCreditIsReported);
    Check.sentence("It changes nothing: cells, cursor, rot and credit keep their values.", AvailableTest::changesNothing);
    Check.sentence("Calling it any number of times has no effect on later answers of any method.", AvailableTest::laterAnswersStayTheSame);
    Check.end();
  }

  private static void answersThePresentCredit() {
    EntropyPool pool = new EntropyPool();
    pool.credit(40);
    Check.due("available() behind credit(40)", pool.available(), 40);
    pool.mix(-3);
    Check.due("available() behind mix(-3)", pool.available(), 40);
    pool.extract(32);
    Check.due("available() behind extract(32)", pool.available(), 8);
    pool.extract(9);
    Check.due("available() behind a refused extract(9)", pool.available(), 8);
    pool.extract(0);
    Check.due("available() behind a refused extract(0)", pool.available(), 8);
    pool.extract(33);
    Check.due("available() behind a refused extract(33)", pool.available(), 8);
    pool.credit(-8);
    Check.due("available() behind a refused credit(-8)", pool.available(), 8);
    pool.credit(0);
    Check.due("available() behind credit(0)", pool.available(), 8);
  }

  private static void emptyCreditIsZero() {
    EntropyPool pool = new EntropyPool();
    Check.due("new: available()", pool.available(), 0);
    pool.credit(8);
    pool.extract(8);
    Check.due("drained: available()", pool.available(), 0);
    pool.extract(1);
    Check.due("drained and refused: available()", pool.available(), 0);
    pool.credit(Integer.MIN_VALUE);
    Check.due("drained and refused by credit: available()", pool.available(), 0);
  }

  private static void fullCreditIsTheTop() {
    EntropyPool pool = new EntropyPool();
    pool.credit(512);
    Check.due("full: available()", pool.available(), 512);
    pool.credit(1);
    Check.due("full and one more: available()", pool.available(), 512);
    pool.credit(Integer.MAX_VALUE);
    Check.due("full and the greatest more: available()", pool.available(), 512);
  }

  private static void everyCreditIsReported() {
    EntropyPool pool = new EntropyPool();
    for (int credit = 0; credit <= 512; credit++) {
      Check.due("available() on the way up", pool.available(), credit);
      pool.credit(1);
    }
    for (int credit = 512; credit >= 0; credit--) {
      Check.due("available() on the way down", pool.available(), credit);
      pool.extract(1);
    }
  }

  private static void changesNothing() {
    for (Model before : Pools.edgeStates()) {
      Check.unchanged(before, "available()", pool -> pool.available(), before.credit);
    }
  }

  private static void laterAnswersStayTheSame() {
    for (Model before : Pools.edgeStates()) {
      EntropyPool asked = Pools.in(before);
      EntropyPool plain = Pools.in(before);
      for (int i = 0; i < 1000; i++) {
        Check.due("available() again", asked.available(), before.credit);
      }
      for (int i = 0; i < 40; i++) {
        Check.due("mix behind available()", asked.mix(i), plain.mix(i));
        asked.available();
        Check.due("extract behind available()", asked.extract(1 + i % 33), plain.extract(1 + i % 33));
        asked.available();
        Check.due("credit behind available()", asked.credit(i - 2), plain.credit(i - 2));
        asked.available();
      }
    }
  }
}
