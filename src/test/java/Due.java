/** Counts answers that are as due, and prints those that are not. */
final class Due {
  private int right = 0;
  private int wrong = 0;

  void is(String call, long got, long want) {
    if (got == want) {
      right++;
      return;
    }
    wrong++;
    if (wrong <= 40) {
      System.out.println(call + " answered " + got + ", due is " + want);
    }
  }

  void isTrue(String what, boolean holds) {
    is(what, holds ? 1 : 0, 1);
  }

  void end() {
    System.out.println(right + " answers as due, " + wrong + " not");
    if (wrong != 0 || right == 0) {
      System.exit(1);
    }
  }

  static void typeAll(AgeLetters x, String people) {
    for (int i = 0; i < people.length(); i++) {
      x.type(people.charAt(i));
    }
  }

  static AgeLetters of(String people) {
    AgeLetters x = new AgeLetters();
    typeAll(x, people);
    return x;
  }

  /** The bits with these numbers. */
  static int bits(int... numbers) {
    int sum = 0;
    for (int number : numbers) {
      sum |= 1 << number;
    }
    return sum;
  }
}
