/** The boundary cases of promises 29 to 36: sheet, lose, put, get, copy, write, count, digest. */
public final class SheetsEdgesTest {
  private static final Due due = new Due();
  private static final int BAD = AgeLetters.BAD;
  private static final int LEAST = Integer.MIN_VALUE;
  private static final int MOST = Integer.MAX_VALUE;
  private static final int NULL = -11, INDEX = -12, CAST = -13, STORE = -14, SIZE = -15;

  public static void main(String[] args) {
    sheetNumbers();
    sheetOfZeros();
    sheetInPlaceOfAnother();
    loses();
    putsToEachItem();
    putsTheLowestBits();
    putRefusals();
    getsEachItem();
    getRefusals();
    copiesToTheEdges();
    copiesNothing();
    copiesWithinOne();
    copyRefusals();
    writesAsManyAsThereAre();
    writesTheLowestBits();
    counts();
    countsPeople();
    countsFindings();
    digestOfNothing();
    digestInItsOrder();
    digestOfItsYears();
    digestOfItsPlans();
    digestOfItsChances();
    digestChangesNothing();
    due.endOf(29, 30, 31, 32, 33, 34, 35, 36);
  }

  // ---- 29 sheet, 30 lose

  private static void sheetNumbers() {
    due.promise(29, "SHEETS 0 .. 3, a FORM (0 to 2), of 0 to 48 items: n");
    AgeLetters x = new AgeLetters();
    for (int s = 0; s < 4; s++) {
      for (int form = 0; form < 3; form++) {
        for (int n : new int[] {0, 1, 47, 48}) {
          due.is("sheet(" + s + ", " + form + ", " + n + ")", x.sheet(s, form, n), n);
        }
        for (int n : new int[] {49, 50, MOST}) {
          due.is("sheet(" + s + ", " + form + ", " + n + ")", x.sheet(s, form, n), BAD);
        }
        for (int n : new int[] {-1, -2, LEAST}) {
          due.is("sheet(" + s + ", " + form + ", " + n + ")", x.sheet(s, form, n), SIZE);
        }
        due.is("it has 48 still: put", x.put(s, form, 47, 1), 1);
      }
    }
    due.promise(29, "BAD ahead of SIZE");
    x = new AgeLetters();
    for (int wrong : new int[] {-1, LEAST, MOST}) {
      due.is("sheet(" + wrong + ", 0, -1)", x.sheet(wrong, 0, -1), BAD);
      due.is("sheet(0, " + wrong + ", -1)", x.sheet(0, wrong, -1), BAD);
      due.is("sheet(" + wrong + ", 0, 1)", x.sheet(wrong, 0, 1), BAD);
      due.is("sheet(0, " + wrong + ", 1)", x.sheet(0, wrong, 1), BAD);
    }
    due.is("sheet(4, 0, 1)", x.sheet(4, 0, 1), BAD);
    due.is("sheet(4, 0, -1)", x.sheet(4, 0, -1), BAD);
    due.is("sheet(0, 3, 1)", x.sheet(0, 3, 1), BAD);
    due.is("sheet(0, 3, -1)", x.sheet(0, 3, -1), BAD);
    due.is("count(8)", x.count(8), 0);
    due.is("none was made: lose(0)", x.lose(0), NULL);
  }

  private static void sheetOfZeros() {
    due.promise(29, "a new row (0 at first)");
    AgeLetters x = new AgeLetters();
    for (int form = 0; form < 3; form++) {
      x.sheet(1, form, 48);
      for (int i = 0; i < 48; i++) {
        due.is("get(1, " + form + ", " + i + ")", x.get(1, form, i), 0);
        x.put(1, form, i, 100 + i);
      }
    }
    due.is("sheet(1, 2, 48)", x.sheet(1, 2, 48), 48);
    for (int i = 0; i < 48; i++) {
      due.is("anew: get(1, 2, " + i + ")", x.get(1, 2, i), 0);
    }
    x.put(1, 2, 5, 9);
    x.lose(1);
    x.sheet(1, 2, 6);
    due.is("anew behind lose(): get(1, 2, 5)", x.get(1, 2, 5), 0);
    x.put(1, 2, 5, 9);
    x.sheet(1, 2, 3);
    x.sheet(1, 2, 6);
    due.is("anew behind a smaller one: get(1, 2, 5)", x.get(1, 2, 5), 0);
  }

  private static void sheetInPlaceOfAnother() {
    due.promise(29, "A SHEET is a new row: the old one is no more");
    AgeLetters x = new AgeLetters();
    x.sheet(0, 0, 48);
    x.sheet(1, 0, 7);
    x.put(1, 0, 6, 5);
    due.is("sheet(0, 1, 2)", x.sheet(0, 1, 2), 2);
    due.is("put(0, 0, 0, 1)", x.put(0, 0, 0, 1), CAST);
    due.is("put(0, 1, 2, 1)", x.put(0, 1, 2, 1), INDEX);
    due.is("put(0, 1, 1, 1)", x.put(0, 1, 1, 1), 1);
    due.is("another stays: get(1, 0, 6)", x.get(1, 0, 6), 5);
    due.is("one of no items is not lost: lose(0)", sized(0, 0, 0).lose(0), 0);
  }

  private static AgeLetters sized(int s, int form, int n) {
    AgeLetters x = new AgeLetters();
    x.sheet(s, form, n);
    return x;
  }

  private static void loses() {
    due.promise(30, "It is LOST: how many items it had. NULL");
    for (int s = 0; s < 4; s++) {
      for (int n : new int[] {0, 1, 48}) {
        AgeLetters x = sized(s, 1, n);
        due.is("lose(" + s + ") of " + n, x.lose(s), n);
        due.is("count(8)", x.count(8), 0);
        due.is("lose(" + s + ") again", x.lose(s), NULL);
        due.is("count(8)", x.count(8), 1);
        due.is("put", x.put(s, 1, 0, 1), NULL);
        due.is("the next one", x.lose((s + 1) % 4), NULL);
      }
    }
    due.promise(30, "BAD, no finding");
    AgeLetters x = sized(0, 1, 5);
    for (int s : new int[] {-1, 4, LEAST, MOST}) {
      due.is("lose(" + s + ")", x.lose(s), BAD);
    }
    due.is("count(8)", x.count(8), 0);
    due.is("lose(0)", x.lose(0), 5);
  }

  // ---- 31 put, 32 get

  private static void putsToEachItem() {
    due.promise(31, "Item i becomes v: 1");
    for (int form = 0; form < 3; form++) {
      AgeLetters x = sized(3, form, 48);
      for (int i = 0; i < 48; i++) {
        due.is("put(3, " + form + ", " + i + ", ..)", x.put(3, form, i, 70 - i), 1);
      }
      for (int i = 0; i < 48; i++) {
        due.is("get(3, " + form + ", " + i + ")", x.get(3, form, i), 70 - i);
      }
      due.is("one behind the last", x.put(3, form, 48, 1), INDEX);
      due.is("one ahead of the first", x.put(3, form, -1, 1), INDEX);
    }
  }

  private static void putsTheLowestBits() {
    due.promise(31, "the lowest bits that it has, with its sign");
    int[][] bytes = {{0, 0}, {1, 1}, {-1, -1}, {127, 127}, {128, -128}, {-128, -128}, {-129, 127}, {255, -1}, {256, 0},
        {383, 127}, {384, -128}, {32767, -1}, {32768, 0}, {MOST, -1}, {LEAST, 0}, {LEAST + 127, 127}, {LEAST + 128, -128}};
    int[][] shorts = {{0, 0}, {1, 1}, {-1, -1}, {128, 128}, {-129, -129}, {32767, 32767}, {32768, -32768}, {-32768, -32768},
        {-32769, 32767}, {65535, -1}, {65536, 0}, {98303, 32767}, {98304, -32768}, {MOST, -1}, {LEAST, 0}};
    int[][] ints = {{0, 0}, {-1, -1}, {128, 128}, {32768, 32768}, {65536, 65536}, {MOST, MOST}, {LEAST, LEAST}};
    int[][][] all = {bytes, shorts, ints};
    for (int form = 0; form < 3; form++) {
      AgeLetters x = sized(0, form, 3);
      for (int[] v : all[form]) {
        due.is("put(0, " + form + ", 1, " + v[0] + ")", x.put(0, form, 1, v[0]), 1);
        due.is("get(0, " + form + ", 1) of " + v[0], x.get(0, form, 1), v[1]);
      }
      due.is("the one ahead", x.get(0, form, 0), 0);
      due.is("the one behind", x.get(0, form, 2), 0);
      due.is("count(8)", x.count(8), 0);
    }
  }

  private static void putRefusals() {
    due.promise(31, "BAD; NULL; CAST; INDEX");
    AgeLetters x = sized(0, 1, 5);
    x.sheet(1, 2, 0);
    int[][] rows = {
        {-1, 1, 0, BAD, 0}, {4, 1, 0, BAD, 0}, {0, -1, 0, BAD, 0}, {0, 3, 0, BAD, 0}, {2, 3, 0, BAD, 0}, {0, 3, 5, BAD, 0},
        {2, 1, 0, NULL, 1}, {2, 0, -1, NULL, 1}, {0, 1, -1, INDEX, 2}, {0, 1, 5, INDEX, 2}, {1, 2, 0, INDEX, 2},
        {0, 0, 0, CAST, 3}, {0, 2, 4, CAST, 3}, {0, 0, 5, CAST, 3}, {0, 2, -1, CAST, 3}, {1, 0, 0, CAST, 3}};
    for (int[] r : rows) {
      x.sheet(3, 0, -1);
      due.is("put(" + r[0] + ", " + r[1] + ", " + r[2] + ", 9)", x.put(r[0], r[1], r[2], 9), r[3]);
      due.is("count(8)", x.count(8), r[4] == 0 ? 5 : r[4]);
    }
    for (int i = 0; i < 5; i++) {
      due.is("nothing is changed: get(0, 1, " + i + ")", x.get(0, 1, i), 0);
    }
  }

  private static void getsEachItem() {
    due.promise(32, "Item i of it");
    AgeLetters x = sized(2, 2, 48);
    x.put(2, 2, 0, 11);
    x.put(2, 2, 47, LEAST);
    due.is("the first", x.get(2, 2, 0), 11);
    due.is("between", x.get(2, 2, 46), 0);
    due.is("the last, which is the least int", x.get(2, 2, 47), LEAST);
    due.is("that is no finding: count(8)", x.count(8), 0);
    due.is("get of it twice", x.get(2, 2, 0), 11);
  }

  private static void getRefusals() {
    due.promise(32, "BAD: the least int; so are NULL, CAST, INDEX (count() 8 tells)");
    AgeLetters x = sized(0, 1, 5);
    x.sheet(1, 2, 0);
    int[][] rows = {
        {-1, 1, 0, 0}, {4, 1, 0, 0}, {LEAST, 1, 0, 0}, {MOST, 1, 0, 0}, {0, -1, 0, 0}, {0, 3, 0, 0}, {2, 3, 0, 0}, {0, 3, 5, 0},
        {2, 1, 0, 1}, {2, 0, -1, 1}, {0, 1, -1, 2}, {0, 1, 5, 2}, {0, 1, LEAST, 2}, {0, 1, MOST, 2}, {1, 2, 0, 2},
        {0, 0, 0, 3}, {0, 2, 4, 3}, {0, 0, 5, 3}, {0, 2, -1, 3}, {1, 0, 0, 3}};
    for (int[] r : rows) {
      x.sheet(3, 0, -1);
      due.is("get(" + r[0] + ", " + r[1] + ", " + r[2] + ")", x.get(r[0], r[1], r[2]), LEAST);
      due.is("count(8)", x.count(8), r[3] == 0 ? 5 : r[3]);
    }
  }

  // ---- 33 copy

  /** Items 1 on. */
  private static void number(AgeLetters x, int s, int form, int n, int from) {
    x.sheet(s, form, n);
    for (int i = 0; i < n; i++) {
      x.put(s, form, i, from + i);
    }
  }

  private static void holds(AgeLetters x, int s, int form, int... items) {
    for (int i = 0; i < items.length; i++) {
      due.is("get(" + s + ", " + form + ", " + i + ")", x.get(s, form, i), items[i]);
    }
  }

  private static void copiesToTheEdges() {
    due.promise(33, "n items of SHEET s, from i on, come to SHEET t, from j on: 1");
    for (int form = 0; form < 3; form++) {
      AgeLetters x = new AgeLetters();
      number(x, 0, form, 5, 1);
      number(x, 1, form, 3, 11);
      due.is("up to both ends", x.copy(0, 2, 1, 0, 3), 1);
      holds(x, 1, form, 3, 4, 5);
      holds(x, 0, form, 1, 2, 3, 4, 5);
      due.is("the last to the last", x.copy(0, 4, 1, 2, 1), 1);
      holds(x, 1, form, 3, 4, 5);
      due.is("the first to the last", x.copy(0, 0, 1, 2, 1), 1);
      holds(x, 1, form, 3, 4, 1);
      due.is("the last to the first", x.copy(1, 2, 0, 0, 1), 1);
      holds(x, 0, form, 1, 2, 3, 4, 5);
      due.is("count(8)", x.count(8), 0);
    }
    AgeLetters y = new AgeLetters();
    number(y, 2, 2, 48, 1000);
    y.sheet(3, 2, 48);
    due.is("all 48", y.copy(2, 0, 3, 0, 48), 1);
    due.is("the first", y.get(3, 2, 0), 1000);
    due.is("the last", y.get(3, 2, 47), 1047);
  }

  private static void copiesNothing() {
    due.promise(33, "of n 0, too: i or j above the size");
    AgeLetters x = new AgeLetters();
    number(x, 0, 2, 5, 1);
    number(x, 1, 2, 3, 11);
    x.sheet(2, 2, 0);
    due.is("from the first", x.copy(0, 0, 1, 0, 0), 1);
    due.is("from the size on", x.copy(0, 5, 1, 3, 0), 1);
    due.is("of an empty one", x.copy(2, 0, 0, 5, 0), 1);
    due.is("to an empty one", x.copy(0, 0, 2, 0, 0), 1);
    due.is("an empty one to itself", x.copy(2, 0, 2, 0, 0), 1);
    due.is("count(8)", x.count(8), 0);
    due.is("i above the size", x.copy(0, 6, 1, 0, 0), INDEX);
    due.is("j above the size", x.copy(0, 0, 1, 4, 0), INDEX);
    due.is("i above the size of an empty one", x.copy(2, 1, 0, 0, 0), INDEX);
    due.is("j above the size of an empty one", x.copy(0, 0, 2, 1, 0), INDEX);
    holds(x, 0, 2, 1, 2, 3, 4, 5);
    holds(x, 1, 2, 11, 12, 13);
  }

  private static void copiesWithinOne() {
    due.promise(33, "SHEET t (perhaps s, as they were)");
    AgeLetters x = new AgeLetters();
    number(x, 0, 0, 6, 1);
    due.is("one onward", x.copy(0, 0, 0, 1, 5), 1);
    holds(x, 0, 0, 1, 1, 2, 3, 4, 5);
    number(x, 0, 1, 6, 1);
    due.is("one back", x.copy(0, 1, 0, 0, 5), 1);
    holds(x, 0, 1, 2, 3, 4, 5, 6, 6);
    number(x, 0, 2, 6, 1);
    due.is("onto themselves", x.copy(0, 0, 0, 0, 6), 1);
    holds(x, 0, 2, 1, 2, 3, 4, 5, 6);
    due.is("four onward by two", x.copy(0, 0, 0, 2, 4), 1);
    holds(x, 0, 2, 1, 2, 1, 2, 3, 4);
    due.is("one too many", x.copy(0, 0, 0, 2, 5), INDEX);
    due.is("one too many from 2 on", x.copy(0, 2, 0, 0, 5), INDEX);
    holds(x, 0, 2, 1, 2, 1, 2, 3, 4);
  }

  private static void copyRefusals() {
    due.promise(33, "BAD: the SHEETS; NULL: s, t; STORE; INDEX");
    AgeLetters x = new AgeLetters();
    number(x, 0, 1, 5, 1);
    number(x, 1, 1, 3, 11);
    number(x, 2, 2, 5, 21);
    int[][] rows = {
        {-1, 0, 0, 0, 0, BAD, 0}, {4, 0, 0, 0, 0, BAD, 0}, {0, 0, -1, 0, 0, BAD, 0}, {0, 0, 4, 0, 0, BAD, 0}, {3, 0, 4, 0, 0, BAD, 0},
        {-1, -1, 3, 0, -1, BAD, 0}, {3, 0, 0, 0, 1, NULL, 1}, {0, 0, 3, 0, 1, NULL, 1}, {3, -1, 3, -1, -1, NULL, 1},
        {3, 0, 2, 9, 1, NULL, 1}, {0, 0, 2, 0, 1, STORE, 4}, {2, 0, 0, 0, 0, STORE, 4}, {2, -1, 0, 0, 1, STORE, 4},
        {0, 6, 2, 6, 9, STORE, 4}, {0, -1, 1, 0, 1, INDEX, 2}, {0, 0, 1, -1, 1, INDEX, 2}, {0, 0, 1, 0, -1, INDEX, 2},
        {0, 3, 1, 0, 3, INDEX, 2}, {0, 0, 1, 0, 4, INDEX, 2}, {0, 0, 1, 1, 3, INDEX, 2}, {0, 5, 1, 0, 1, INDEX, 2},
        {0, 0, 1, 3, 1, INDEX, 2}, {0, 1, 1, 0, MOST, INDEX, 2}, {0, MOST, 1, 0, 1, INDEX, 2}, {0, 0, 1, MOST, 1, INDEX, 2},
        {0, MOST, 1, 0, MOST, INDEX, 2}, {0, LEAST, 1, 0, 1, INDEX, 2}, {0, 0, 1, LEAST, 1, INDEX, 2},
        {0, 0, 1, 0, LEAST, INDEX, 2}, {0, 5, 1, 3, -1, INDEX, 2}, {0, 1, 1, 1, LEAST, INDEX, 2}};
    for (int[] r : rows) {
      x.sheet(3, 0, -1);
      due.is("copy" + java.util.Arrays.toString(r), x.copy(r[0], r[1], r[2], r[3], r[4]), r[5]);
      due.is("count(8)", x.count(8), r[6] == 0 ? 5 : r[6]);
    }
    holds(x, 0, 1, 1, 2, 3, 4, 5);
    holds(x, 1, 1, 11, 12, 13);
    holds(x, 2, 2, 21, 22, 23, 24, 25);
  }

  // ---- 34 write

  private static void writesAsManyAsThereAre() {
    due.promise(34, "from item 0 on, as many as there are items and LETTERS: how many");
    for (int letters : new int[] {0, 1, 11, 12}) {
      for (int items : new int[] {0, 1, 10, 11, 12, 13, 48}) {
        AgeLetters x = Due.of("0099o;0099o");
        x.knows(0, 1);
        for (int l = 0; l < letters; l++) {
          x.letter(0, 1, 20 + l, l % 2, -1);
        }
        number(x, 1, 2, items, 500);
        int many = Math.min(items, letters);
        due.is("write(1) of " + letters + " to " + items, x.write(1), many);
        for (int i = 0; i < items; i++) {
          int opened = i % 2 == 0 ? 20 + i : AgeLetters.NONE;
          due.is("get(1, 2, " + i + ")", x.get(1, 2, i), i < many ? opened : 500 + i);
        }
        due.is("lose(1)", x.lose(1), items);
        due.is("count(8)", x.count(8), 0);
      }
    }
    due.promise(34, "BAD; NULL");
    AgeLetters x = sized(1, 2, 3);
    for (int s : new int[] {-1, 4, LEAST, MOST}) {
      due.is("write(" + s + ")", x.write(s), BAD);
    }
    due.is("count(8)", x.count(8), 0);
    due.is("write(0)", x.write(0), NULL);
    due.is("count(8)", x.count(8), 1);
  }

  private static void writesTheLowestBits() {
    due.promise(34, "the lowest bits that it has, with its sign; by write(), too");
    AgeLetters x = Due.of("0099o;9999o;0060o");
    x.knows(0, 1);
    for (int age : new int[] {28, 29, 99}) {
      x.letter(0, 1, age, 0, -1);
    }
    x.letter(0, 2, 61, 0, -1);
    int[][] want = {{127, -128, -58, -1}, {127, 128, 198, -1}, {127, 128, 198, -1}};
    for (int form = 0; form < 3; form++) {
      x.sheet(form, form, 4);
      due.is("write(" + form + ")", x.write(form), 4);
      holds(x, form, form, want[form]);
    }
  }

  // ---- 35 count

  private static void counts() {
    due.promise(35, "0 PERSONS, 1 bytes, 2 LETTERS, 3 WRITTEN, 4 OPENED, 5 DONE, 6 ELDERS, 7 WORDS: full");
    AgeLetters x = Due.of("0099e;0099e;0099e;0099e;0099e;0099e;0099e;0099e;0099e;0099e");
    for (int person = 0; person < 10; person++) {
      x.knows(person, 255);
    }
    for (int l = 0; l < 12; l++) {
      x.letter(0, 1, 50, 0, -1);
    }
    for (int i = 0; i < 8; i++) {
      x.done(0, 0, 0, 0);
    }
    int[] full = {10, 59, 12, 12, 12, 8, 10, 80, 0};
    for (int what = 0; what <= 8; what++) {
      due.is("count(" + what + ")", x.count(what), full[what]);
    }
    due.promise(35, "count() 0 to 7: empty");
    AgeLetters y = new AgeLetters();
    for (int what = 0; what <= 8; what++) {
      due.is("count(" + what + ")", y.count(what), 0);
    }
    due.promise(35, "BAD");
    for (int what : new int[] {-1, 9, LEAST, MOST}) {
      due.is("count(" + what + ")", x.count(what), BAD);
      due.is("count(" + what + ") of a new one", y.count(what), BAD);
    }
  }

  private static void countsPeople() {
    due.promise(35, "3 those that are WRITTEN, 4 OPENED");
    AgeLetters x = Due.of("0099o;2029f;5001e");
    x.knows(0, 1);
    x.letter(0, 1, 34, 0, -1);
    x.letter(0, 1, 35, 0, -1);
    x.letter(0, 1, 36, 1, -1);
    due.is("count(2)", x.count(2), 3);
    due.is("count(3)", x.count(3), 2);
    due.is("count(4), of ages 34 and 35 the first", x.count(4), 1);
    due.promise(35, "7 WORDS that PERSONS (that there are) KNOW of themselves (of each PERSON, added)");
    x.knows(1, 1);
    x.knows(2, 128);
    x.knows(3, 255);
    due.is("count(7), what was learned not being among them", x.count(7), 3);
    due.is("count(6)", x.count(6), 1);
    due.promise(35, "With a FAULT there is nobody");
    x.type(';');
    int[] faulty = {0, 18, 3, 0, 0, 0, 0, 0, 0};
    for (int what = 0; what <= 8; what++) {
      due.is("count(" + what + ")", x.count(what), faulty[what]);
    }
  }

  private static void countsFindings() {
    due.promise(35, "8 the number of the latest FINDING (0 before any)");
    AgeLetters x = Due.of("0099o");
    due.is("count(8)", x.count(8), 0);
    x.sheet(0, 1, 3);
    x.sheet(1, 2, 3);
    due.is("count(8) behind what is no finding", x.count(8), 0);
    due.is("sheet(2, 0, -1)", x.sheet(2, 0, -1), SIZE);
    due.is("count(8)", x.count(8), 5);
    due.is("copy(0, 0, 1, 0, 1)", x.copy(0, 0, 1, 0, 1), STORE);
    due.is("count(8)", x.count(8), 4);
    due.is("put(0, 0, 0, 0)", x.put(0, 0, 0, 0), CAST);
    due.is("count(8)", x.count(8), 3);
    due.is("put(0, 1, 3, 0)", x.put(0, 1, 3, 0), INDEX);
    due.is("count(8)", x.count(8), 2);
    due.is("lose(3)", x.lose(3), NULL);
    due.is("count(8)", x.count(8), 1);
    due.promise(35, "neither BAD nor NOT nor FULL nor what is well is a FINDING");
    x.put(0, 1, 0, 7);
    x.get(0, 1, 0);
    x.copy(0, 0, 0, 1, 1);
    x.write(0);
    x.read(0);
    x.lose(0);
    x.get(0, 9, 0);
    x.put(-1, 0, 0, 0);
    x.back();
    x.wipe();
    x.undo();
    x.type(256);
    x.digest();
    due.is("count(8)", x.count(8), 1);
  }

  // ---- 36 digest

  private static long fold(long... all) {
    long h = 17;
    for (long one : all) {
      h = 31 * h + one;
    }
    return h;
  }

  private static void digestOfNothing() {
    due.promise(36, "h is 17; chance(), above, below (as they are told): refused, too; as longs that wrap");
    long bad = Long.MIN_VALUE + 2;
    due.is("digest() of a new one", new AgeLetters().digest(),
        fold(0, 0, 0, 0, 0, 0, 0, 0, -1, 0, -1, -1, 0, 0, 0, -2, -2, -2, -2, -2, 1024, bad, bad, 0));
    AgeLetters x = Due.of("0070");
    due.is("digest() of a fault", x.digest(),
        fold(0, 4, 0, 0, 0, 0, 0, 0, 4, 0, -1, -1, 0, 0, 0, -2, -2, -2, -2, -2, 1024, bad, bad, 0));
    x.type('o');
    due.is("digest() of one", x.digest(),
        fold(1, 5, 0, 0, 0, 0, 0, 0, -1, 0, 70, 0, 0, 0, -1, 40, 0, -1, -1, 0, 0, 0, -1, -1, -1, -1, -1, 1025, 0, 1, 0));
    x.letter(0, 9, 199, 7, -1);
    due.is("digest() of one and a letter", x.digest(),
        fold(1, 5, 1, 0, 0, 0, 0, 0, -1, 0, 70, 0, 0, 0, -1, 40, -1, 0, 255,
            0, -1, -1, 0, 0, 0, -1, -1, -1, -1, -1, 1025, 0, 1, 0));
  }

  /** What the other calls tell, in the document's order. */
  private static long foldOf(AgeLetters x) {
    long h = 17;
    for (int what = 0; what <= 7; what++) {
      h = 31 * h + x.count(what);
    }
    h = 31 * h + x.fault();
    for (int p = 0; p < x.count(0); p++) {
      long[] told = {x.person(p, 0), x.person(p, 1), x.person(p, 2), x.known(50, p), x.known(199, p), x.learned(p, 0),
          x.age(p, 40)};
      for (long one : told) {
        h = 31 * h + one;
      }
    }
    for (int l = 0; l < x.count(2); l++) {
      long[] told = {x.opened(l), x.written(l), x.said(l)};
      for (long one : told) {
        h = 31 * h + one;
      }
    }
    long[] rest = {x.sealed(), x.loud(0), x.loud(1), x.tooSoon(), x.waits(60, 0), x.waits(60, 1), x.send(0, 0, 0),
        x.send(0, 0, 1), x.send(0, 0, 2), x.trust(0, 0), x.teach(0, 1, 30), x.forged(), x.chance(4, 0, 0, 0),
        x.chance(4, 0, 0, 1), x.drawn(7, 4)};
    for (long one : rest) {
      h = 31 * h + one;
    }
    return h;
  }

  private static AgeLetters filled() {
    AgeLetters x = Due.of("2070o;1060e;0580f;2050o;3040e;1590o;0199f;2575o;0866o;4050e");
    for (int i = 0; i < 12; i++) {
      x.knows(i % 10, 1 << i % 5);
      x.letter((i + 1) % 10, (i + 4) % 10, 25 + 3 * i, i % 4, i % 3 - 1);
    }
    x.knows(0, 6);
    x.letter(5, 0, 30, 0, -1);
    for (int i = 0; i < 8; i++) {
      x.done(60 + i, i, i % 4, x.known(60 + i, i) >> i % 4 & 1);
    }
    return x;
  }

  private static void digestInItsOrder() {
    due.promise(36, "h becomes 31 h and each of: empty, faulty, full");
    due.is("of a new one", new AgeLetters().digest(), foldOf(new AgeLetters()));
    AgeLetters full = filled();
    due.is("of a full one", full.digest(), foldOf(full));
    for (int left = 58; left >= 0; left--) {
      full.undo();
      if (left % 6 == 5 || left % 6 == 2) {
        AgeLetters x = filled();
        for (int i = 58; i >= left; i--) {
          x.undo();
        }
        due.is("with " + left + " bytes", full.digest(), foldOf(x));
      }
    }
    for (int left = 11; left >= 0; left--) {
      AgeLetters x = filled();
      for (int i = 11; i >= left; i--) {
        x.back();
      }
      due.is("with " + left + " letters", x.digest(), foldOf(x));
      x.forget();
      due.is("with " + left + " letters and nothing done", x.digest(), foldOf(x));
    }
  }

  /** A year more or less, or another number in place of that of the document, would be told apart here. */
  private static void apart(String call, long told, long... others) {
    for (long other : others) {
      due.isTrue(call + " is told apart from its neighbours", told != other);
    }
  }

  private static void digestOfItsYears() {
    due.promise(36, "known(50, it), known(199, it), learned(it, 0), age(it, 40), waits(60, 0 and 1), tooSoon()");
    AgeLetters x = Due.of("0099o;0099o;2099o;4080o;9999o;0040f;0099o;2039o");
    x.knows(0, 255);
    int[] years = {49, 50, 51, 59, 60, 61};
    for (int word = 0; word < 6; word++) {
      x.letter(0, 1, years[word], word, -1);
    }
    for (int year = 59; year <= 61; year++) {
      x.letter(0, 2, year, 6, -1);
    }
    x.letter(0, 4, 99, 7, -1);
    x.letter(0, 7, 40, 6, -1);
    apart("known(50, 1)", x.known(50, 1), x.known(49, 1), x.known(51, 1));
    apart("known(199, 4)", x.known(199, 4), x.known(197, 4));
    apart("learned(1, 0)", x.learned(1, 0), x.learned(1, 1));
    apart("age(3, 40)", x.age(3, 40), x.age(3, 39), x.age(3, 41));
    apart("age(5, 40)", x.age(5, 40), x.age(5, 39), x.age(5, 41));
    apart("waits(60, 0)", x.waits(60, 0), x.waits(59, 0), x.waits(61, 0));
    apart("waits(60, 1)", x.waits(60, 1), x.waits(59, 1), x.waits(61, 1));
    due.is("tooSoon()", x.tooSoon(), 1 << 10);
    due.is("digest()", x.digest(), foldOf(x));
  }

  private static void digestOfItsPlans() {
    due.promise(36, "send(0, 0, 0 to 2), trust(0, 0), teach(0, 1, 30)");
    AgeLetters x = Due.of("1089o;0599o;0099o;0099o");
    x.knows(1, 7);
    x.letter(1, 0, 36, 0, -1);
    x.letter(1, 0, 35, 0, -1);
    x.letter(1, 0, 35, 1, -1);
    x.letter(3, 2, 50, 3, -1);
    apart("teach(0, 1, 30)", x.teach(0, 1, 30), x.teach(0, 1, 29), x.teach(0, 1, 31), x.teach(0, 0, 30), x.teach(0, 2, 30),
        x.teach(0, 3, 30), x.teach(1, 1, 30));
    due.is("send(0, 0, 0)", x.send(0, 0, 0), 10);
    due.is("send(0, 0, 1)", x.send(0, 0, 1), 1);
    due.is("send(0, 0, 2)", x.send(0, 0, 2), 5);
    apart("send(0, 0, 0)", x.send(0, 0, 0), x.send(0, 1, 0), x.send(0, 2, 0), x.send(3, 0, 0));
    due.is("digest()", x.digest(), foldOf(x));
    x.knows(1, 0);
    apart("trust(0, 0)", x.trust(0, 0), x.trust(0, 1), x.trust(2, 0));
    due.is("digest() with nothing known", x.digest(), foldOf(x));
  }

  private static void digestOfItsChances() {
    due.promise(36, "chance(4, 0, 0), above, below (as they are told), drawn(7, 4)");
    AgeLetters x = Due.of("0060o;0060o;0060o;0060o;0060o;0060o;0060o;0060o;0060o;0060o");
    for (int person = 0; person < 10; person++) {
      x.knows(person, person == 0 ? 2 : 1);
      x.letter(person, (person + 1) % 10, 55, person == 0 ? 1 : 0, -1);
    }
    x.letter(0, 1, 45, 1, -1);
    for (int what = 0; what < 2; what++) {
      apart("chance(4, 0, 0, " + what + ")", x.chance(4, 0, 0, what), x.chance(3, 0, 0, what), x.chance(5, 0, 0, what),
          x.chance(4, 0, 1, what), x.chance(4, 1, 0, what));
    }
    // The lots of seed 7 are 12, 14, 4, 2, 3, 5, 2, 14, 1, ..: person 2 has one of 4, person 4 one of 3.
    apart("drawn(7, 4)", x.drawn(7, 4), x.drawn(6, 4), x.drawn(8, 4), x.drawn(7, 3), x.drawn(7, 5));
    due.is("digest()", x.digest(), foldOf(x));
  }

  private static void digestChangesNothing() {
    due.promise(36, "count() 0 to 7: neither SHEETS nor FINDINGS; and it changes nothing");
    AgeLetters x = filled();
    long h = x.digest();
    due.is("twice", x.digest(), h);
    x.sheet(0, 2, 48);
    x.put(0, 2, 0, 7);
    due.is("with a sheet", x.digest(), h);
    x.get(0, 1, 0);
    due.is("with a finding", x.digest(), h);
    due.is("count(8)", x.count(8), 3);
    x.letter(0, 0, 0, 0, 0);
    x.letter(0, 1, 0, 0, 0);
    x.type('0');
    x.done(0, 0, 0, 0);
    x.knows(0, 256);
    due.is("behind what was refused", x.digest(), h);
    due.isTrue("digest() leaves all as it was", Look.isSame(SheetsEdgesTest::filled, () -> {
      AgeLetters y = filled();
      y.digest();
      return y;
    }));
  }
}
