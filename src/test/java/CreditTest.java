/** Promise 3, sentence by sentence. */
public final class CreditTest {
  private static final int[] NOT_NEGATIVE = {
    0, 1, 2, 31, 32, 33, 255, 256, 511, 512, 513, 1023, 1024, 65536, 1 << 30, Integer.MAX_VALUE - 512, Integer.MAX_VALUE - 511, Integer.MAX_VALUE - 1, Integer.MAX_VALUE
  };

  public static void main(String[] args) {
    Check.sentence("bits < 0: refused. Answers -1. Nothing changes: cells, cursor, rot and credit all keep their values.", CreditTest::negativeBitsAreRefused);
    Check.sentence("bits < 0: refused (at every credit).", CreditTest::negativeBitsAreRefusedAtEveryCredit);
    Check.sentence("bits >= 0: the credit becomes min(512, credit + bits).", CreditTest::creditBecomesTheSum);
    Check.sentence("The sum is formed without overflow for every int value of bits.", CreditTest::sumDoesNotOverflow);
    Check.sentence("credit(Integer.MAX_VALUE) sets the credit to 512 whatever its previous value, and never to a negative or wrapped-around number.", CreditTest::greatestBitsFillTheCredit);
    Check.sentence("Answers the new credit, which is in 0..512.", CreditTest::answerIsTheNewCredit);
    Check.sentence("credit(0) leaves the credit as it is and answers it.", CreditTest::zeroBitsLeaveTheCredit);
    Check.sentence("When the credit is already 512, any bits >= 0 leaves it at 512 and answers 512.", CreditTest::fullCreditStaysFull);
    Check.sentence("Any sum above 512 answers 512.", CreditTest::sumAboveTheTopAnswersTheTop);
    Check.sentence("credit never touches the cells, the cursor or rot.", CreditTest::restIsLeftAlone);
    Check.end();
  }

  private static EntropyPool poolOf(int credit) {
    EntropyPool pool = new EntropyPool();
    pool.credit(credit);
    return pool;
  }

  private static void negativeBitsAreRefused() {
    for (Model before : Pools.edgeStates()) {
      for (int bits : new int[] {-1, -2, -31, -32, -33, -511, -512, -513, Integer.MIN_VALUE + 1, Integer.MIN_VALUE}) {
        Check.unchanged(before, "credit(" + bits + ")", pool -> pool.credit(bits), -1);
      }
    }
  }

  private static void negativeBitsAreRefusedAtEveryCredit() {
    for (int credit = 0; credit <= 512; credit++) {
      EntropyPool pool = poolOf(credit);
      for (int bits : new int[] {-1, -credit - 1, Integer.MIN_VALUE}) {
        Check.due("credit(" + bits + ") at credit " + credit, pool.credit(bits), -1);
        Check.due("available() behind it", pool.available(), credit);
      }
    }
  }

  private static void creditBecomesTheSum() {
    for (int credit = 0; credit <= 512; credit++) {
      for (int bits = 0; bits <= 520; bits++) {
        EntropyPool pool = poolOf(credit);
        pool.credit(bits);
        Check.due("available() behind credit(" + bits + ") at credit " + credit, pool.available(), Math.min(512, credit + bits));
      }
    }
    EntropyPool pool = poolOf(43);
    pool.extract(32);
    Check.due("credit(5) at the 11 that an extract left", pool.credit(5), 16);
  }

  /** Both sides of the place where credit + bits, as an int, would turn negative. */
  private static void sumDoesNotOverflow() {
    for (int credit = 0; credit <= 512; credit++) {
      int greatestWithin = Integer.MAX_VALUE - credit;
      for (int beyond = -1; beyond <= Math.min(credit, 2); beyond++) {
        EntropyPool pool = poolOf(credit);
        int bits = greatestWithin + beyond;
        Check.due("credit(" + bits + ") at credit " + credit, pool.credit(bits), 512);
        Check.due("available() behind it", pool.available(), 512);
      }
    }
  }

  private static void greatestBitsFillTheCredit() {
    for (int credit = 0; credit <= 512; credit++) {
      EntropyPool pool = poolOf(credit);
      Check.due("credit(MAX_VALUE) at credit " + credit, pool.credit(Integer.MAX_VALUE), 512);
      Check.due("available() behind it", pool.available(), 512);
      Check.due("credit(MAX_VALUE) again", pool.credit(Integer.MAX_VALUE), 512);
      Check.due("available() behind that", pool.available(), 512);
    }
  }

  private static void answerIsTheNewCredit() {
    for (int credit = 0; credit <= 512; credit++) {
      for (int bits : NOT_NEGATIVE) {
        EntropyPool pool = poolOf(credit);
        int answer = pool.credit(bits);
        Check.isTrue("credit(" + bits + ") at credit " + credit + " is in 0..512: " + answer, answer >= 0 && answer <= 512);
        Check.due("available() behind credit(" + bits + ") at credit " + credit, pool.available(), answer);
      }
    }
    EntropyPool counted = new EntropyPool();
    for (int want = 1; want <= 512; want++) {
      Check.due("credit(1), call " + want, counted.credit(1), want);
    }
  }

  private static void zeroBitsLeaveTheCredit() {
    for (int credit = 0; credit <= 512; credit++) {
      Check.unchanged(Model.filled(1, 18, credit), "credit(0)", pool -> pool.credit(0), credit);
    }
  }

  private static void fullCreditStaysFull() {
    for (int bits : NOT_NEGATIVE) {
      Check.unchanged(Model.filled(0, 25, 512), "credit(" + bits + ")", pool -> pool.credit(bits), 512);
    }
    EntropyPool pool = poolOf(512);
    for (int i = 0; i < 1000; i++) {
      Check.due("credit(" + i + ") of the full pool", pool.credit(i), 512);
    }
    pool.extract(32);
    Check.due("available() behind extract(32) of a pool that was filled too often", pool.available(), 480);
  }

  private static void sumAboveTheTopAnswersTheTop() {
    for (int credit = 0; credit <= 512; credit++) {
      int room = 512 - credit;
      if (room > 0) {
        Check.due("one below the top from " + credit, poolOf(credit).credit(room - 1), 511);
      }
      Check.due("just the top from " + credit, poolOf(credit).credit(room), 512);
      Check.due("one above the top from " + credit, poolOf(credit).credit(room + 1), 512);
      Check.due("credit(513) from " + credit, poolOf(credit).credit(513), 512);
      Check.due("credit(1024) from " + credit, poolOf(credit).credit(1024), 512);
    }
  }

  private static void restIsLeftAlone() {
    for (Model before : Pools.edgeStates()) {
      for (int bits : NOT_NEGATIVE) {
        long want = Math.min(512L, before.credit + bits);
        Check.call(before, "credit(" + bits + ")", pool -> pool.credit(bits), want, before.withCredit(want));
      }
    }
  }
}
