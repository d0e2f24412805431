/** Counts answers that are not the ones that are due. */
final class Check {
  private int wrong = 0;
  private int calls = 0;

  void due(String call, long got, long want) {
    calls++;
    if (got != want) {
      wrong++;
      System.out.println(call + " answered " + got + ", due is " + want);
    }
  }

  void holds(String what, boolean so) {
    calls++;
    if (!so) {
      wrong++;
      System.out.println("does not hold: " + what);
    }
  }

  boolean allRight() {
    return wrong == 0;
  }

  void finish() {
    System.out.println(wrong == 0 ? calls + " answers are as due" : wrong + " answers are not as due");
    if (wrong != 0) {
      System.exit(1);
    }
  }
}
