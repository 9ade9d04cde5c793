/** Promises 7 to 10: knows, letter, back, read. */
public final class LettersTest {
  private static final Due due = new Due();

  public static void main(String[] args) {
    knows();
    letter();
    back();
    read();
    due.end();
  }

  private static void knows() {
    AgeLetters x = new AgeLetters();
    due.is("knows(0, 5), nobody being there", x.knows(0, 5), 0);
    due.is("knows(0, 255)", x.knows(0, 255), 5);
    due.is("knows(9, 1)", x.knows(9, 1), 0);
    due.is("knows(9, 0)", x.knows(9, 0), 1);
    due.is("knows(10, 0)", x.knows(10, 0), AgeLetters.BAD);
    due.is("knows(-1, 0)", x.knows(-1, 0), AgeLetters.BAD);
    due.is("knows(0, 256)", x.knows(0, 256), AgeLetters.BAD);
    due.is("knows(0, -1)", x.knows(0, -1), AgeLetters.BAD);
    due.is("unchanged by refusals", x.knows(0, 6), 255);
    Due.typeAll(x, "0050o;3050o");
    due.is("known(0, 0)", x.known(0, 0), 6);
    due.is("count(7)", x.count(7), 2);
    x.knows(1, 7);
    due.is("known ahead of birth, too", x.known(0, 1), 7);
    due.is("learned(1, 2)", x.learned(1, 2), 0);
    due.is("count(7), added", x.count(7), 5);
    x.knows(2, 255);
    due.is("count(7), only who is there", x.count(7), 5);
  }

  private static void letter() {
    AgeLetters x = new AgeLetters();
    int[][] bad = {
        {-1, 1, 0, 0, -1}, {10, 1, 0, 0, -1}, {0, -1, 0, 0, -1}, {0, 10, 0, 0, -1}, {3, 3, 0, 0, -1},
        {0, 1, -1, 0, -1}, {0, 1, 200, 0, -1}, {0, 1, 0, -1, -1}, {0, 1, 0, 8, -1}, {0, 1, 0, 0, -2}, {0, 1, 0, 0, 8},
        {Integer.MAX_VALUE, 1, 0, 0, -1}, {0, Integer.MIN_VALUE, 0, 0, -1}, {0, 1, Integer.MAX_VALUE, 0, -1}};
    for (int[] b : bad) {
      due.is("letter(" + java.util.Arrays.toString(b) + ")", x.letter(b[0], b[1], b[2], b[3], b[4]), AgeLetters.BAD);
    }
    due.is("none came", x.count(2), 0);
    int[][] good = {{0, 9, 0, 0, -1}, {9, 0, 199, 7, 7}, {0, 1, 0, 0, 0}};
    for (int i = 0; i < 12; i++) {
      int[] g = good[i % 3];
      due.is("letter " + i, x.letter(g[0], g[1], g[2], g[3], g[4]), i + 1);
    }
    due.is("the 13th", x.letter(0, 1, 0, 0, -1), AgeLetters.FULL);
    for (int[] b : bad) {
      due.is("BAD ahead of FULL", x.letter(b[0], b[1], b[2], b[3], b[4]), AgeLetters.BAD);
    }
    due.is("12 of them", x.count(2), 12);
  }

  private static void back() {
    AgeLetters x = Due.of("0050o;0050o");
    x.knows(0, 3);
    x.letter(0, 1, 10, 0, -1);
    x.letter(0, 1, 20, 1, -1);
    due.is("known(50, 1)", x.known(50, 1), 3);
    due.is("back()", x.back(), 1);
    due.is("opened(1)", x.opened(1), AgeLetters.BAD);
    due.is("the first is left", x.opened(0), 10);
    due.is("known(50, 1) without it", x.known(50, 1), 1);
    due.is("a new one", x.letter(0, 1, 30, 1, -1), 2);
    due.is("opened(1)", x.opened(1), 30);
    due.is("back()", x.back(), 1);
    due.is("back()", x.back(), 0);
    due.is("back() of none", x.back(), AgeLetters.NOT);
    due.is("known(50, 1) of none", x.known(50, 1), 0);
  }

  private static void fill(AgeLetters x, int s, int form, int... items) {
    for (int i = 0; i < items.length; i++) {
      due.is("put", x.put(s, form, i, items[i]), 1);
    }
  }

  private static void read() {
    AgeLetters x = Due.of("0050o;0050o");
    x.knows(0, 255);
    due.is("read(-1)", x.read(-1), AgeLetters.BAD);
    due.is("read(4)", x.read(4), AgeLetters.BAD);
    due.is("BAD is no finding", x.count(8), 0);
    due.is("read of a lost one", x.read(0), -11);
    due.is("count(8)", x.count(8), 1);
    x.sheet(0, 2, 0);
    due.is("read of an empty one", x.read(0), 0);
    x.sheet(0, 2, 4);
    due.is("read of less than one letter", x.read(0), 0);
    x.sheet(0, 2, 14);
    fill(x, 0, 2, 0, 1, 10, 0, -1, 0, 1, 20, 1, 0, 0, 1, 30, 2);
    due.is("read of two and a part", x.read(0), 2);
    due.is("two letters", x.count(2), 2);
    due.is("opened(0)", x.opened(0), 10);
    due.is("opened(1)", x.opened(1), 20);
    x.sheet(1, 1, 15);
    fill(x, 1, 1, 0, 1, 40, 2, -1, 0, 1, 200, 3, -1, 0, 1, 41, 4, -1);
    due.is("read up to the first that is refused", x.read(1), 1);
    due.is("behind those that there are", x.opened(2), 40);
    x.sheet(2, 0, 5);
    fill(x, 2, 0, 0, 1, 150, 2, -1);
    due.is("a byte of 150 is below 0", x.read(2), 0);
    x.sheet(2, 1, 5);
    fill(x, 2, 1, 0, 1, 150, 2, -1);
    due.is("a short of 150 is not", x.read(2), 1);
    due.is("four letters", x.count(2), 4);
    x.sheet(3, 2, 48);
    for (int i = 0; i < 9; i++) {
      x.put(3, 2, 5 * i + 1, 1);
      x.put(3, 2, 5 * i + 2, i);
    }
    due.is("read until full", x.read(3), 8);
    due.is("12 letters", x.count(2), 12);
    due.is("a sheet of zeros would be a needed word 0", x.read(3), 0);
    due.is("read changes no sheet", x.get(3, 2, 42), 8);
    due.is("count(8) is still of the lost one", x.count(8), 1);
  }
}
