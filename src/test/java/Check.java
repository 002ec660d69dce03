/** What the tests share: counting wrong answers, and comparing two pools by what they answer. */
final class Check {
  private static int calls = 0;
  private static int wrong = 0;

  private Check() {}

  static void due(String call, long got, long want) {
    calls++;
    if (got != want) {
      wrong++;
      System.out.println(call + " answered " + got + ", due is " + want);
    }
  }

  static void isTrue(String claim, boolean holds) {
    calls++;
    if (!holds) {
      wrong++;
      System.out.println("does not hold: " + claim);
    }
  }

  /**
   * Finds whether two pools are in the same state, by their answers alone. It uses them up.
   * 16 mixing steps show every cell; words other than 0 show rot; two more rounds show the cursor,
   * since rot takes its longer step only when the cursor comes to 0.
   */
  static void sameState(String when, EntropyPool got, EntropyPool want) {
    due(when + ": available()", got.available(), want.available());
    for (int i = 0; i < 48; i++) {
      due(when + ": mix(1), call " + (i + 1) + " of the probe", got.mix(1), want.mix(1));
    }
    due(when + ": available() behind the probe", got.available(), want.available());
    due(when + ": credit(512) behind the probe", got.credit(512), want.credit(512));
    for (int i = 0; i < 16; i++) {
      due(when + ": extract(32), call " + (i + 1) + " of the probe", got.extract(32), want.extract(32));
    }
  }

  static void end() {
    System.out.println(wrong == 0 ? calls + " answers are as due" : wrong + " of " + calls + " answers are not as due");
    if (wrong != 0) {
      System.exit(1);
    }
  }
}
