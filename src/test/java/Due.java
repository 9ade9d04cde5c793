/** Counts answers that are as due, and prints those that are not. */
final class Due {
  private static final int PROMISES = 36;

  private final int[] ofPromise = new int[PROMISES + 1];
  private String where = "";
  private int promise = 0;
  private int right = 0;
  private int wrong = 0;

  /** What follows is a test of this promise, by this sentence. */
  void promise(int number, String sentence) {
    promise = number;
    where = "promise " + number + ", \"" + sentence + "\": ";
  }

  void is(String call, long got, long want) {
    ofPromise[promise]++;
    if (got == want) {
      right++;
      return;
    }
    wrong++;
    if (wrong <= 40) {
      System.out.println(where + call + " answered " + got + ", due is " + want);
    }
  }

  void isTrue(String what, boolean holds) {
    is(what, holds ? 1 : 0, 1);
  }

  void end() {
    System.out.println(right + " answers as due, " + wrong + " not");
    if (wrong != 0 || right == 0) {
      System.exit(1);
    }
  }

  /** Also fails if one of these promises was not tested at all. */
  void endOf(int... promises) {
    for (int number : promises) {
      if (ofPromise[number] == 0) {
        wrong++;
        System.out.println("promise " + number + " has no test here");
      }
    }
    end();
  }

  static void typeAll(AgeLetters x, String people) {
    for (int i = 0; i < people.length(); i++) {
      x.type(people.charAt(i));
    }
  }

  static AgeLetters of(String people) {
    AgeLetters x = new AgeLetters();
    typeAll(x, people);
    return x;
  }

  /** The bits with these numbers. */
  static int bits(int... numbers) {
    int sum = 0;
    for (int number : numbers) {
      sum |= 1 << number;
    }
    return sum;
  }
}
