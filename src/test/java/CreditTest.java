/** Promise 3. */
public final class CreditTest {
  public static void main(String[] args) {
    sumsUp();
    saturates();
    neverOverflows();
    refusesNegativeBits();
    leavesTheRestAlone();
    Check.end();
  }

  private static EntropyPool poolWith(int credit) {
    EntropyPool pool = new EntropyPool();
    for (int i = 0; i < 20; i++) {
      pool.mix(i * 7919 - 5);
    }
    pool.credit(credit);
    return pool;
  }

  private static void sumsUp() {
    EntropyPool pool = new EntropyPool();
    Check.due("credit(3)", pool.credit(3), 3);
    Check.due("credit(0) at 3", pool.credit(0), 3);
    Check.due("credit(40) at 3", pool.credit(40), 43);
    Check.due("available()", pool.available(), 43);
    pool.extract(32);
    Check.due("credit(5) behind extract(32)", pool.credit(5), 16);
  }

  private static void saturates() {
    for (int start = 0; start <= 512; start++) {
      for (int bits : new int[] {0, 1, 2, 255, 511 - start, 512 - start, 513 - start, 511, 512, 513, 514, 100000}) {
        if (bits >= 0) {
          EntropyPool pool = poolWith(start);
          int want = Math.min(512, start + bits);
          Check.due("credit(" + bits + ") at " + start, pool.credit(bits), want);
          Check.due("available() behind it", pool.available(), want);
        }
      }
    }
  }

  private static void neverOverflows() {
    for (int start = 0; start <= 512; start++) {
      for (int bits : new int[] {Integer.MAX_VALUE, Integer.MAX_VALUE - 1, Integer.MAX_VALUE - 511, Integer.MAX_VALUE - 512, 1 << 30}) {
        EntropyPool pool = poolWith(start);
        Check.due("credit(" + bits + ") at " + start, pool.credit(bits), 512);
        Check.due("available() behind it", pool.available(), 512);
      }
    }
  }

  private static void refusesNegativeBits() {
    for (int start : new int[] {0, 1, 100, 511, 512}) {
      for (int bits : new int[] {-1, -2, -start - 1, -512, -513, Integer.MIN_VALUE, Integer.MIN_VALUE + 1}) {
        EntropyPool pool = poolWith(start);
        String call = "credit(" + bits + ") at " + start;
        Check.due(call, pool.credit(bits), -1);
        Check.sameState("behind " + call, pool, poolWith(start));
      }
    }
  }

  private static void leavesTheRestAlone() {
    for (int bits : new int[] {0, 1, 7, 512, Integer.MAX_VALUE}) {
      EntropyPool inOneGo = poolWith(bits);
      EntropyPool again = poolWith(bits);
      again.credit(0);
      Check.sameState("behind credit(0) at " + inOneGo.available(), again, inOneGo);
      EntropyPool credited = poolWith(0);
      EntropyPool plain = poolWith(0);
      credited.credit(bits);
      for (int i = 0; i < 48; i++) {
        Check.due("mix(1) behind credit(" + bits + ")", credited.mix(1), plain.mix(1));
      }
    }
  }
}
