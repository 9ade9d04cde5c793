/** Promises 29 to 36: sheet, lose, put, get, copy, write, count, digest. */
public final class SheetsTest {
  private static final Due due = new Due();
  private static final int LEAST = Integer.MIN_VALUE;
  private static final int NULL = -11, INDEX = -12, CAST = -13, STORE = -14, SIZE = -15;

  public static void main(String[] args) {
    sheet();
    lose();
    put();
    get();
    copy();
    copyRefusals();
    write();
    count();
    digest();
    due.end();
  }

  private static void sheet() {
    AgeLetters x = new AgeLetters();
    int[][] bad = {{-1, 0, 0}, {4, 0, 0}, {0, -1, 0}, {0, 3, 0}, {0, 0, 49}, {-1, 0, -1}, {0, 3, -1}, {0, 0, Integer.MAX_VALUE}};
    for (int[] b : bad) {
      due.is("sheet " + java.util.Arrays.toString(b), x.sheet(b[0], b[1], b[2]), AgeLetters.BAD);
    }
    due.is("BAD is no finding", x.count(8), 0);
    due.is("sheet(0, 0, -1)", x.sheet(0, 0, -1), SIZE);
    due.is("sheet(0, 2, least)", x.sheet(0, 2, LEAST), SIZE);
    due.is("count(8)", x.count(8), 5);
    due.is("still lost", x.lose(0), NULL);
    for (int s = 0; s < 4; s++) {
      for (int form = 0; form < 3; form++) {
        due.is("sheet of 48", x.sheet(s, form, 48), 48);
        due.is("0 at first", x.get(s, form, 47), 0);
        x.put(s, form, 47, 9);
        due.is("sheet of 0", x.sheet(s, form, 0), 0);
        due.is("sheet of 48 anew", x.sheet(s, form, 48), 48);
        due.is("0 at first", x.get(s, form, 47), 0);
      }
    }
    x.put(0, 2, 0, 5);
    due.is("refused", x.sheet(0, 2, -1), SIZE);
    due.is("refusals change nothing", x.get(0, 2, 0), 5);
  }

  private static void lose() {
    AgeLetters x = new AgeLetters();
    due.is("lose(-1)", x.lose(-1), AgeLetters.BAD);
    due.is("lose(4)", x.lose(4), AgeLetters.BAD);
    due.is("count(8)", x.count(8), 0);
    due.is("lose(0)", x.lose(0), NULL);
    due.is("count(8)", x.count(8), 1);
    x.sheet(0, 1, 7);
    x.sheet(3, 1, 0);
    due.is("lose(0)", x.lose(0), 7);
    due.is("lose(0) again", x.lose(0), NULL);
    due.is("lose(3)", x.lose(3), 0);
    x.sheet(0, 2, 3);
    due.is("a new one", x.lose(0), 3);
  }

  private static void put() {
    AgeLetters x = new AgeLetters();
    due.is("put to a lost one", x.put(0, 0, 0, 0), NULL);
    for (int form = 0; form < 3; form++) {
      x.sheet(form, form, 3);
    }
    int[] values = {127, 128, 255, 256, -1, -129, 32768, 65535, 65536 + 5, Integer.MAX_VALUE, LEAST};
    int[] bytes = {127, -128, -1, 0, -1, 127, 0, -1, 5, -1, 0};
    int[] shorts = {127, 128, 255, 256, -1, -129, -32768, -1, 5, -1, 0};
    for (int i = 0; i < values.length; i++) {
      for (int form = 0; form < 3; form++) {
        due.is("put", x.put(form, form, 2, values[i]), 1);
        int want = form == 0 ? bytes[i] : form == 1 ? shorts[i] : values[i];
        due.is("form " + form + " of " + values[i], x.get(form, form, 2), want);
      }
    }
    due.is("the others are 0", x.get(2, 2, 1), 0);
    due.is("put(-1, ..)", x.put(-1, 0, 0, 0), AgeLetters.BAD);
    due.is("put(4, ..)", x.put(4, 0, 0, 0), AgeLetters.BAD);
    due.is("put(0, 3, ..)", x.put(0, 3, 0, 0), AgeLetters.BAD);
    due.is("put(0, -1, ..)", x.put(0, -1, 0, 0), AgeLetters.BAD);
    due.is("BAD ahead of NULL", x.put(3, 3, 0, 0), AgeLetters.BAD);
    due.is("NULL ahead of INDEX", x.put(3, 0, -1, 0), NULL);
    due.is("count(8)", x.count(8), 1);
    due.is("CAST ahead of INDEX", x.put(0, 1, 3, 0), CAST);
    due.is("count(8)", x.count(8), 3);
    due.is("INDEX", x.put(0, 0, 3, 0), INDEX);
    due.is("count(8)", x.count(8), 2);
    due.is("INDEX", x.put(0, 0, -1, 0), INDEX);
    due.is("INDEX", x.put(0, 0, LEAST, 0), INDEX);
    due.is("CAST", x.put(2, 0, 0, 0), CAST);
    due.is("a right call is no finding", x.put(0, 0, 0, 0), 1);
    due.is("count(8) is of the latest", x.count(8), 3);
  }

  private static void get() {
    AgeLetters x = new AgeLetters();
    due.is("get(-1, 0, 0)", x.get(-1, 0, 0), LEAST);
    due.is("get(4, 0, 0)", x.get(4, 0, 0), LEAST);
    due.is("get(0, -1, 0)", x.get(0, -1, 0), LEAST);
    due.is("get(0, 3, 0)", x.get(0, 3, 0), LEAST);
    due.is("count(8)", x.count(8), 0);
    due.is("NULL", x.get(0, 0, 0), LEAST);
    due.is("count(8)", x.count(8), 1);
    x.sheet(0, 1, 5);
    due.is("CAST", x.get(0, 2, 5), LEAST);
    due.is("count(8)", x.count(8), 3);
    due.is("INDEX", x.get(0, 1, 5), LEAST);
    due.is("count(8)", x.count(8), 2);
    due.is("CAST", x.get(0, 0, 0), LEAST);
    due.is("INDEX", x.get(0, 1, -1), LEAST);
    due.is("count(8)", x.count(8), 2);
    due.is("get(0, 1, 4)", x.get(0, 1, 4), 0);
    x.put(0, 1, 4, -7);
    due.is("get(0, 1, 4)", x.get(0, 1, 4), -7);
    due.is("count(8)", x.count(8), 2);
  }

  private static AgeLetters counted() {
    AgeLetters x = new AgeLetters();
    x.sheet(0, 2, 6);
    x.sheet(1, 2, 4);
    x.sheet(2, 1, 6);
    for (int i = 0; i < 6; i++) {
      x.put(0, 2, i, i + 1);
    }
    return x;
  }

  private static void holds(String what, AgeLetters x, int s, int form, int... items) {
    for (int i = 0; i < items.length; i++) {
      due.is(what + ": item " + i, x.get(s, form, i), items[i]);
    }
  }

  private static void copy() {
    AgeLetters x = counted();
    due.is("copy", x.copy(0, 1, 1, 2, 2), 1);
    holds("to another", x, 1, 2, 0, 0, 2, 3);
    holds("of the first", x, 0, 2, 1, 2, 3, 4, 5, 6);
    due.is("copy", x.copy(0, 0, 0, 2, 4), 1);
    holds("onward within one", x, 0, 2, 1, 2, 1, 2, 3, 4);
    x = counted();
    due.is("copy", x.copy(0, 2, 0, 0, 4), 1);
    holds("back within one", x, 0, 2, 3, 4, 5, 6, 5, 6);
    due.is("all of it", x.copy(1, 0, 0, 2, 4), 1);
    holds("all of it", x, 0, 2, 3, 4, 0, 0, 0, 0);
    due.is("none at the end", x.copy(0, 6, 1, 4, 0), 1);
    due.is("none onto itself", x.copy(0, 6, 0, 6, 0), 1);
    due.is("count(8)", x.count(8), 0);
    x.sheet(3, 2, 0);
    due.is("none of an empty one", x.copy(3, 0, 3, 0, 0), 1);
  }

  private static void copyRefusals() {
    AgeLetters x = counted();
    due.is("BAD", x.copy(-1, 0, 0, 0, 0), AgeLetters.BAD);
    due.is("BAD", x.copy(4, 0, 0, 0, 0), AgeLetters.BAD);
    due.is("BAD", x.copy(0, 0, -1, 0, 0), AgeLetters.BAD);
    due.is("BAD", x.copy(0, 0, 4, 0, 0), AgeLetters.BAD);
    due.is("BAD ahead of NULL", x.copy(3, 0, 4, 0, 0), AgeLetters.BAD);
    due.is("count(8)", x.count(8), 0);
    due.is("NULL: s", x.copy(3, 0, 0, -1, 0), NULL);
    due.is("NULL: t", x.copy(0, 0, 3, 0, -1), NULL);
    due.is("count(8)", x.count(8), 1);
    due.is("STORE ahead of INDEX", x.copy(0, -1, 2, 0, 0), STORE);
    due.is("STORE of none", x.copy(2, 0, 0, 0, 0), STORE);
    due.is("count(8)", x.count(8), 4);
    int[][] index = {
        {-1, 0, 1}, {0, -1, 1}, {0, 0, -1}, {0, 0, 5}, {3, 0, 4}, {0, 1, 4}, {7, 0, 0}, {0, 5, 0}, {6, 0, 1}, {0, 4, 1},
        {Integer.MAX_VALUE, 0, 1}, {1, 1, Integer.MAX_VALUE}, {0, Integer.MAX_VALUE, 1}, {-1, -1, 0}, {1, 0, LEAST}, {LEAST, 0, LEAST}};
    for (int[] r : index) {
      due.is("INDEX " + java.util.Arrays.toString(r), x.copy(0, r[0], 1, r[1], r[2]), INDEX);
    }
    due.is("count(8)", x.count(8), 2);
    holds("unchanged", x, 0, 2, 1, 2, 3, 4, 5, 6);
    holds("unchanged", x, 1, 2, 0, 0, 0, 0);
  }

  private static void write() {
    AgeLetters x = Due.of("0099o;6099o");
    x.knows(0, 1);
    x.letter(0, 1, 80, 0, -1);
    x.letter(0, 1, 30, 1, -1);
    x.letter(0, 1, 20, 0, -1);
    due.is("write(-1)", x.write(-1), AgeLetters.BAD);
    due.is("write(4)", x.write(4), AgeLetters.BAD);
    due.is("write(0)", x.write(0), NULL);
    due.is("count(8)", x.count(8), 1);
    x.sheet(0, 2, 5);
    x.put(0, 2, 3, 77);
    due.is("write(0)", x.write(0), 3);
    holds("ints", x, 0, 2, 140, -1, 80, 77, 0);
    x.sheet(1, 0, 2);
    due.is("write(1)", x.write(1), 2);
    holds("bytes", x, 1, 0, -116, -1);
    x.sheet(2, 1, 3);
    due.is("write(2)", x.write(2), 3);
    holds("shorts", x, 2, 1, 140, -1, 80);
    x.sheet(3, 1, 0);
    due.is("no items", x.write(3), 0);
    x.back();
    x.back();
    x.back();
    due.is("no letters", x.write(0), 0);
    holds("as it was", x, 0, 2, 140, -1, 80, 77, 0);
  }

  private static void count() {
    due.is("elders, the first one, too", Due.of("0001e;0001e").count(6), 2);
    AgeLetters x = Due.of("0099o;6099e;0010f;0010e");
    x.knows(0, 7);
    x.knows(1, 128);
    x.knows(3, 0);
    x.knows(4, 255);
    x.letter(0, 1, 20, 0, -1);
    x.letter(0, 2, 20, 0, -1);
    x.letter(2, 0, 20, 0, -1);
    x.letter(0, 1, 99, 1, -1);
    x.letter(1, 0, 99, 1, -1);
    x.done(0, 0, 0, 1);
    x.done(0, 0, 0, 0);
    x.lose(0);
    int[] want = {4, 23, 5, 3, 2, 2, 2, 4, 1};
    for (int what = 0; what <= 8; what++) {
      due.is("count(" + what + ")", x.count(what), want[what]);
    }
    due.is("count(-1)", x.count(-1), AgeLetters.BAD);
    due.is("count(9)", x.count(9), AgeLetters.BAD);
    x.type(';');
    int[] faulty = {0, 24, 5, 0, 0, 2, 0, 0, 1};
    for (int what = 0; what <= 8; what++) {
      due.is("with a fault: count(" + what + ")", x.count(what), faulty[what]);
    }
  }

  private static long fold(long... all) {
    long h = 17;
    for (long one : all) {
      h = 31 * h + one;
    }
    return h;
  }

  private static void digest() {
    long bad = Long.MIN_VALUE + 2;
    AgeLetters x = new AgeLetters();
    long empty = fold(0, 0, 0, 0, 0, 0, 0, 0, -1, 0, -1, -1, 0, 0, 0, -2, -2, -2, -2, -2, 1024, bad, bad, 0);
    due.is("digest() of nobody", x.digest(), empty);
    x.lose(0);
    x.sheet(1, 1, 5);
    due.is("sheets and findings are not in it", x.digest(), empty);
    x.type('x');
    due.is("of a fault", x.digest(),
        fold(0, 1, 0, 0, 0, 0, 0, 0, 0, 0, -1, -1, 0, 0, 0, -2, -2, -2, -2, -2, 1024, bad, bad, 0));
    AgeLetters y = Due.of("2060o;0070e;0065f");
    y.knows(1, 3);
    y.knows(2, 1);
    y.letter(2, 0, 10, 0, -1);
    y.letter(0, 1, 55, 0, -1);
    y.letter(1, 0, 65, 1, -1);
    y.done(100, 0, 0, 1);
    // 0 opens letter 0, of age 15, in 35, and writes letter 1 of age 35 in 55; 1, being 55, reads it out.
    // Letter 2, of age 65, waits for 85, but 0 dies in 80.
    due.is("digest()", y.digest(), fold(
        3, 17, 3, 3, 2, 1, 1, 3, -1,
        20, 60, 0, 1, 1, 35, 20,
        0, 70, 1, 3, 3, 0, 40,
        0, 65, 2, 1, 1, 0, 45,
        35, 1, 1,
        55, 1, 255,
        -1, 1, 255,
        4, 35, 1, 0, 0, 3,
        20, 1, 0,
        0, 1, 1031, 1, 1, 3));
    lateDigest();
  }

  /** Here the ends by chance, and who has which lot of seed 7 (12, 14, 4, 2, 3), count. */
  private static void lateDigest() {
    AgeLetters x = Due.of("0060o;0060o;0060o;0060e;0060o");
    x.knows(1, 1);
    x.knows(2, 1);
    x.knows(3, 2);
    x.knows(4, 4);
    x.letter(1, 0, 55, 0, -1);
    x.letter(2, 1, 55, 0, -1);
    x.letter(3, 1, 55, 1, -1);
    x.letter(0, 9, 60, 0, -1);
    x.letter(4, 1, 55, 2, -1);
    due.is("digest()", x.digest(), fold(
        5, 29, 5, 5, 4, 0, 1, 4, -1,
        0, 60, 0, 0, 1, 55, 40,
        0, 60, 0, 1, 7, 0, 40,
        0, 60, 0, 1, 1, 0, 40,
        0, 60, 1, 2, 2, -1, 40,
        0, 60, 0, 4, 4, -1, 40,
        55, 1, 255,
        55, 1, 255,
        55, 1, 255,
        -1, 1, 255,
        55, 1, 255,
        8, 55, 4, 0, 8, 23,
        0, 1, 0,
        0, -1, 1055, 9, 16, 3));
  }
}
