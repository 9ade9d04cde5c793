/** The boundary cases of promises 7 to 10: knows, letter, back, read. */
public final class LettersEdgesTest {
  private static final Due due = new Due();
  private static final int LEAST = Integer.MIN_VALUE;
  private static final int MOST = Integer.MAX_VALUE;

  public static void main(String[] args) {
    knowsPersons();
    knowsWords();
    knowsOfWhoIsNotThere();
    letterNumbers();
    letterToOneself();
    twelveLetters();
    backTillNone();
    backIsTheLast();
    readOfWholeOnes();
    readOfAFullSheet();
    readUpToTheFirstRefused();
    readUntilFull();
    readOfForms();
    due.endOf(7, 8, 9, 10);
  }

  private static void knowsPersons() {
    due.promise(7, "a PERSON (0 to 9)");
    AgeLetters x = new AgeLetters();
    for (int person = 0; person < 10; person++) {
      due.is("knows(" + person + ", 3)", x.knows(person, 3), 0);
    }
    for (int person : new int[] {-1, 10, LEAST, MOST}) {
      due.is("knows(" + person + ", 3)", x.knows(person, 3), AgeLetters.BAD);
    }
    for (int person = 0; person < 10; person++) {
      due.is("knows(" + person + ", 0)", x.knows(person, 0), 3);
    }
  }

  private static void knowsWords() {
    due.promise(7, "WORDS (0 to 255): what they were");
    AgeLetters x = Due.of("0070o");
    due.is("none at first: knows(0, 255)", x.knows(0, 255), 0);
    due.is("known(0, 0)", x.known(0, 0), 255);
    due.is("knows(0, 256)", x.knows(0, 256), AgeLetters.BAD);
    due.is("knows(0, -1)", x.knows(0, -1), AgeLetters.BAD);
    due.is("knows(0, least)", x.knows(0, LEAST), AgeLetters.BAD);
    due.is("knows(0, most)", x.knows(0, MOST), AgeLetters.BAD);
    due.is("known(199, 0)", x.known(199, 0), 255);
    due.is("in place of what they were: knows(0, 128)", x.knows(0, 128), 255);
    due.is("known(0, 0)", x.known(0, 0), 128);
    due.is("learned(0, 7)", x.learned(0, 7), 0);
    due.is("learned(0, 6)", x.learned(0, 6), AgeLetters.NONE);
    due.is("knows(0, 0)", x.knows(0, 0), 128);
    due.is("knows(0, 0) again", x.knows(0, 0), 0);
    due.is("known(0, 0)", x.known(0, 0), 0);
  }

  private static void knowsOfWhoIsNotThere() {
    due.promise(7, "a PERSON (0 to 9), there or not");
    AgeLetters x = new AgeLetters();
    due.is("knows(1, 129)", x.knows(1, 129), 0);
    due.is("count(7)", x.count(7), 0);
    Due.typeAll(x, "0070o");
    due.is("count(7) of another", x.count(7), 0);
    Due.typeAll(x, ";0070o");
    due.is("count(7), it being there", x.count(7), 2);
    due.is("known(0, 1)", x.known(0, 1), 129);
    x.wipe();
    due.is("knows(1, 0)", x.knows(1, 0), 129);
  }

  private static void taken(AgeLetters x, int... l) {
    int ahead = x.count(2);
    due.is("letter" + java.util.Arrays.toString(l), x.letter(l[0], l[1], l[2], l[3], l[4]), ahead + 1);
    due.is("count(2)", x.count(2), ahead + 1);
    x.back();
  }

  private static void refused(AgeLetters x, int... l) {
    int ahead = x.count(2);
    due.is("letter" + java.util.Arrays.toString(l), x.letter(l[0], l[1], l[2], l[3], l[4]), AgeLetters.BAD);
    due.is("count(2)", x.count(2), ahead);
  }

  private static void letterNumbers() {
    AgeLetters x = new AgeLetters();
    due.promise(8, "a writer (PERSONS 0 to 9)");
    taken(x, 0, 5, 50, 3, 3);
    taken(x, 9, 5, 50, 3, 3);
    for (int writer : new int[] {-1, 10, LEAST, MOST}) {
      refused(x, writer, 5, 50, 3, 3);
    }
    due.promise(8, "a reader (PERSONS 0 to 9)");
    taken(x, 5, 0, 50, 3, 3);
    taken(x, 5, 9, 50, 3, 3);
    for (int reader : new int[] {-1, 10, LEAST, MOST}) {
      refused(x, 5, reader, 50, 3, 3);
    }
    due.promise(8, "the YEAR (0 to 199) in which it is written");
    taken(x, 5, 6, 0, 3, 3);
    taken(x, 5, 6, 199, 3, 3);
    for (int year : new int[] {-1, 200, LEAST, MOST}) {
      refused(x, 5, 6, year, 3, 3);
    }
    due.promise(8, "a WORD (0 to 7)");
    taken(x, 5, 6, 50, 0, 3);
    taken(x, 5, 6, 50, 7, 3);
    for (int word : new int[] {-1, 8, LEAST, MOST}) {
      refused(x, 5, 6, 50, word, 3);
    }
    due.promise(8, "the WORD that is NEEDED (NONE: none)");
    taken(x, 5, 6, 50, 3, -1);
    taken(x, 5, 6, 50, 3, 0);
    taken(x, 5, 6, 50, 3, 7);
    for (int needed : new int[] {-2, 8, LEAST, MOST}) {
      refused(x, 5, 6, 50, 3, needed);
    }
  }

  private static void letterToOneself() {
    due.promise(8, "BAD: also to oneself");
    AgeLetters x = Due.of("0070o;0070o");
    for (int person = 0; person < 10; person++) {
      refused(x, person, person, 50, 3, -1);
    }
    taken(x, 0, 1, 50, 3, -1);
    taken(x, 1, 0, 50, 3, -1);
    taken(x, 9, 8, 50, 3, -1);
  }

  private static void twelveLetters() {
    due.promise(8, "12 at most (0 on): how many; FULL");
    AgeLetters x = Due.of("0070o;0070o");
    x.knows(0, 1);
    for (int l = 0; l < 12; l++) {
      due.is("opened(" + l + ") ahead", x.opened(l), AgeLetters.BAD);
      due.is("letter, the " + l, x.letter(0, 1, 20 + l, 0, -1), l + 1);
      due.is("opened(" + l + ")", x.opened(l), 20 + l);
    }
    due.is("the 13th", x.letter(0, 1, 40, 0, -1), AgeLetters.FULL);
    due.is("count(2)", x.count(2), 12);
    due.is("opened(12)", x.opened(12), AgeLetters.BAD);
    due.is("opened(11)", x.opened(11), 31);
    due.promise(8, "BAD ahead of FULL");
    refused(x, 1, 1, 40, 0, -1);
    refused(x, 0, 10, 40, 0, -1);
    refused(x, 0, 1, 200, 0, -1);
    refused(x, 0, 1, 40, 8, -1);
    refused(x, 0, 1, 40, 0, -2);
    due.promise(8, "12 at most, of which one may be undone");
    due.is("back()", x.back(), 11);
    due.is("letter", x.letter(0, 1, 50, 0, -1), 12);
    due.is("opened(11)", x.opened(11), 50);
    due.is("the 13th", x.letter(0, 1, 40, 0, -1), AgeLetters.FULL);
  }

  private static void backTillNone() {
    due.promise(9, "how many are left. NOT: there is none");
    AgeLetters x = new AgeLetters();
    due.is("back() of none", x.back(), AgeLetters.NOT);
    for (int l = 0; l < 12; l++) {
      x.letter(0, 1, 20, 0, -1);
    }
    for (int left = 11; left >= 0; left--) {
      due.is("back()", x.back(), left);
      due.is("count(2)", x.count(2), left);
    }
    due.is("back() of none", x.back(), AgeLetters.NOT);
    due.is("back() of none again", x.back(), AgeLetters.NOT);
    due.is("count(2)", x.count(2), 0);
    due.is("letter", x.letter(0, 1, 20, 0, -1), 1);
  }

  private static void backIsTheLast() {
    due.promise(9, "The last LETTER is undone, with what came of it");
    AgeLetters x = Due.of("0070o;0070o");
    x.knows(0, 3);
    x.letter(0, 1, 20, 0, -1);
    x.letter(0, 1, 10, 1, -1);
    due.is("known(199, 1)", x.known(199, 1), 3);
    due.is("loud(0)", x.loud(0), 10);
    due.is("back()", x.back(), 1);
    due.is("known(199, 1)", x.known(199, 1), 1);
    due.is("loud(0)", x.loud(0), 20);
    due.is("opened(0)", x.opened(0), 20);
    due.is("opened(1)", x.opened(1), AgeLetters.BAD);
    due.is("back()", x.back(), 0);
    due.is("known(199, 1)", x.known(199, 1), 0);
    due.is("loud(0)", x.loud(0), AgeLetters.NONE);
  }

  /** A sheet of letters of 0 to 1, each in a year of its own from 20 on; the last may be a part. */
  private static AgeLetters withSheet(int form, int items) {
    AgeLetters x = Due.of("0070o;0070o");
    x.knows(0, 1);
    x.sheet(2, form, items);
    for (int i = 0; i < items; i++) {
      int[] one = {0, 1, 20 + i / 5, 0, -1};
      x.put(2, form, i, one[i % 5]);
    }
    return x;
  }

  private static void readOfWholeOnes() {
    due.promise(10, "five for each, as many as are whole: how many it took");
    for (int items = 0; items <= 48; items++) {
      AgeLetters x = withSheet(2, items);
      due.is("read of " + items + " items", x.read(2), items / 5);
      due.is("count(2)", x.count(2), items / 5);
      due.is("the last", x.opened(items / 5 - 1), items < 5 ? AgeLetters.BAD : 19 + items / 5);
      due.is("one behind it", x.opened(items / 5), AgeLetters.BAD);
    }
  }

  private static void readOfAFullSheet() {
    due.promise(10, "LETTERS more, behind those that there are");
    AgeLetters x = withSheet(2, 48);
    x.letter(0, 1, 60, 0, -1);
    due.is("read(2)", x.read(2), 9);
    due.is("count(2)", x.count(2), 10);
    due.is("opened(0)", x.opened(0), 60);
    due.is("opened(1)", x.opened(1), 20);
    due.is("opened(9)", x.opened(9), 28);
    due.is("the sheet stays", x.get(2, 2, 42), 28);
    due.is("a part stays", x.get(2, 2, 46), 1);
    due.is("lose(2)", x.lose(2), 48);
    due.is("no finding", x.count(8), 0);
  }

  private static void readUpToTheFirstRefused() {
    due.promise(10, "one by one as letter() takes them, up to the first that it refuses");
    int[][] wrong = {{0, -1}, {0, 10}, {0, 1}, {1, -1}, {1, 10}, {1, 0}, {2, -1}, {2, 200}, {3, -1}, {3, 8}, {4, -2}, {4, 8},
        {0, LEAST}, {1, MOST}, {2, LEAST}, {3, MOST}, {4, LEAST}};
    for (int[] w : wrong) {
      for (int which = 0; which < 3; which++) {
        AgeLetters x = withSheet(2, 15);
        x.put(2, 2, 5 * which + w[0], w[1]);
        due.is("read, number " + w[0] + " of letter " + which + " being " + w[1], x.read(2), which);
        due.is("count(2)", x.count(2), which);
        due.is("count(8)", x.count(8), 0);
      }
    }
    due.promise(10, "the edges that letter() takes");
    int[][] right = {{0, 9}, {1, 9}, {2, 0}, {2, 199}, {3, 0}, {3, 7}, {4, -1}, {4, 0}, {4, 7}};
    for (int[] r : right) {
      AgeLetters x = withSheet(2, 15);
      x.put(2, 2, 5 + r[0], r[1]);
      due.is("read, number " + r[0] + " being " + r[1], x.read(2), 3);
    }
  }

  private static void readUntilFull() {
    due.promise(10, "up to the first that it refuses, being FULL");
    for (int ahead = 0; ahead <= 12; ahead++) {
      AgeLetters x = withSheet(2, 48);
      for (int l = 0; l < ahead; l++) {
        x.letter(0, 1, 60, 0, -1);
      }
      int room = Math.min(9, 12 - ahead);
      due.is("read behind " + ahead, x.read(2), room);
      due.is("count(2)", x.count(2), ahead + room);
    }
    AgeLetters x = withSheet(2, 48);
    x.read(2);
    due.is("read again", x.read(2), 3);
    due.is("and again", x.read(2), 0);
    due.is("count(2)", x.count(2), 12);
    due.is("opened(11)", x.opened(11), 22);
  }

  private static void readOfForms() {
    due.promise(10, "from a SHEET: its items, of each FORM");
    for (int form = 0; form < 3; form++) {
      AgeLetters x = withSheet(form, 10);
      due.is("form " + form, x.read(2), 2);
      x.put(2, form, 7, 127);
      due.is("127 of form " + form, x.read(2), 2);
      x.put(2, form, 7, 128);
      due.is("128 of form " + form + ", a byte being -128", x.read(2), form == 0 ? 1 : 2);
      x.put(2, form, 7, 256 + 20);
      due.is("276 of form " + form + ", a byte being 20", x.read(2), form == 0 ? 2 : 1);
      x.put(2, form, 7, 65536 + 20);
      due.is("65556 of form " + form + ", unless an int being 20", x.read(2), form == 2 ? 1 : 2);
    }
    due.promise(10, "BAD; NULL");
    AgeLetters x = withSheet(2, 10);
    due.is("read(-1)", x.read(-1), AgeLetters.BAD);
    due.is("read(4)", x.read(4), AgeLetters.BAD);
    due.is("count(8)", x.count(8), 0);
    due.is("read(0)", x.read(0), -11);
    due.is("read(3)", x.read(3), -11);
    due.is("count(8)", x.count(8), 1);
    due.is("count(2)", x.count(2), 0);
  }
}
