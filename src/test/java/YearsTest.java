/** Promises 11 to 19: age, opened, written, waits, known, learned, sealed, loud, tooSoon. */
public final class YearsTest {
  private static final Due due = new Due();

  public static void main(String[] args) {
    age();
    village();
    orderWithinAYear();
    birthAndForgedAge();
    whoIsNotThere();
    elders();
    eldersHearOneAnother();
    knownBehindTheYearAhead();
    loudness();
    grace();
    wrongNumbers();
    due.end();
  }

  private static void age() {
    AgeLetters x = Due.of("0070o;2050f;9999e;1001f");
    int[][] rows = {
        {0, 0, 0}, {0, 70, 70}, {0, 71, -1}, {0, 199, -1},
        {1, 19, -1}, {1, 20, 5}, {1, 70, 55}, {1, 71, -1},
        {2, 98, -1}, {2, 99, 0}, {2, 198, 99}, {2, 199, -1},
        {3, 9, -1}, {3, 10, 5}, {3, 11, 6}, {3, 12, -1}};
    for (int[] r : rows) {
      due.is("age(" + r[0] + ", " + r[1] + ")", x.age(r[0], r[1]), r[2]);
    }
    due.is("age(4, 0)", x.age(4, 0), AgeLetters.BAD);
    due.is("age(-1, 0)", x.age(-1, 0), AgeLetters.BAD);
    due.is("age(0, 200)", x.age(0, 200), AgeLetters.BAD);
    due.is("age(0, -1)", x.age(0, -1), AgeLetters.BAD);
  }

  /** 0 lives 0 to 80, 1 20 to 80, 2 (elder) 15 to 105, 3 (5 more) 10 to 80. */
  private static AgeLetters villageOf() {
    AgeLetters x = Due.of("0080o;2060o;1590e;1070f");
    x.knows(0, 3);
    x.knows(3, 4);
    x.letter(0, 1, 25, 0, -1);
    x.letter(0, 2, 30, 1, -1);
    x.letter(1, 3, 46, 1, 2);
    x.letter(1, 3, 45, 0, -1);
    x.letter(3, 0, 80, 2, -1);
    x.letter(3, 1, 80, 2, -1);
    x.letter(0, 1, 61, 1, -1);
    x.letter(0, 2, 80, 0, 3);
    return x;
  }

  private static void village() {
    AgeLetters x = villageOf();
    int[] opened = {45, 45, 46, -1, 80, -1, -1, -1};
    int[] written = {1, 1, 1, 0, 1, 1, 1, 1};
    for (int l = 0; l < 8; l++) {
      due.is("opened(" + l + ")", x.opened(l), opened[l]);
      due.is("written(" + l + ")", x.written(l), written[l]);
    }
    int[][] waits = {
        {0, 0, 0}, {24, 0, 0}, {25, 1, 0}, {30, 3, 0}, {44, 3, 0}, {45, 0, 3}, {46, 0, 7}, {60, 0, 7},
        {61, 64, 7}, {79, 64, 7}, {80, 224, 23}, {81, 224, 23}, {199, 224, 23}};
    for (int[] w : waits) {
      due.is("waits(" + w[0] + ", 0)", x.waits(w[0], 0), w[1]);
      due.is("waits(" + w[0] + ", 1)", x.waits(w[0], 1), w[2]);
    }
    int[][] known = {
        {0, 0, 3}, {79, 0, 3}, {80, 0, 7}, {199, 0, 7}, {44, 1, 0}, {45, 1, 3}, {199, 1, 3},
        {45, 2, 0}, {199, 2, 0}, {0, 3, 4}, {44, 3, 4}, {45, 3, 6}, {199, 3, 6}};
    for (int[] k : known) {
      due.is("known(" + k[0] + ", " + k[1] + ")", x.known(k[0], k[1]), k[2]);
    }
    int[][] learned = {{0, 0, 0}, {0, 1, 0}, {0, 2, 80}, {1, 0, 45}, {1, 1, 45}, {1, 2, -1}, {2, 1, -1}, {3, 1, 45}, {3, 2, 0}};
    for (int[] k : learned) {
      due.is("learned(" + k[0] + ", " + k[1] + ")", x.learned(k[0], k[1]), k[2]);
    }
    due.is("sealed()", x.sealed(), Due.bits(5, 6, 7));
    due.is("loud(0)", x.loud(0), 45);
    due.is("loud(1)", x.loud(1), 2);
    due.is("tooSoon()", x.tooSoon(), Due.bits(6));
    due.is("count(3)", x.count(3), 7);
    due.is("count(4)", x.count(4), 4);
    due.is("nothing is changed by asking", x.tooSoon(), Due.bits(6));
    due.is("sealed() again", x.sealed(), Due.bits(5, 6, 7));
    due.is("person(1, 1)", x.person(1, 1), 60);
  }

  private static void orderWithinAYear() {
    AgeLetters x = Due.of("0090o;1080o");
    x.knows(0, 15);
    x.letter(0, 1, 20, 1, 0);
    x.letter(0, 1, 20, 0, -1);
    x.letter(0, 1, 20, 2, 0);
    due.is("the needed word comes behind it: a year later", x.opened(0), 31);
    due.is("the needed word", x.opened(1), 30);
    due.is("the needed word came just so", x.opened(2), 30);
    x.letter(0, 1, 21, 3, 1);
    due.is("due and needed in one year", x.opened(3), 31);
    x.wipe();
    Due.typeAll(x, "0090o;1020o");
    due.is("dead a year too soon", x.opened(0), AgeLetters.NONE);
    due.is("sealed()", x.sealed(), Due.bits(0, 3));
    due.is("tooSoon()", x.tooSoon(), Due.bits(0, 3));
    x.knows(1, 1);
    due.is("known of itself", x.opened(0), 30);
    due.is("learned(1, 0), no longer by a letter", x.learned(1, 0), 0);
  }

  private static void birthAndForgedAge() {
    AgeLetters x = Due.of("1040o;5030o;0060f;5030f");
    for (int p = 0; p < 4; p++) {
      x.knows(p, 255);
    }
    x.letter(0, 1, 10, 0, -1);
    x.letter(0, 1, 9, 0, -1);
    x.letter(0, 3, 13, 0, -1);
    x.letter(0, 3, 16, 0, -1);
    x.letter(2, 1, 10, 0, -1);
    x.letter(2, 3, 10, 0, -1);
    x.letter(1, 0, 50, 0, -1);
    x.letter(0, 1, 51, 0, -1);
    x.letter(0, 1, 40, 0, -1);
    due.is("age 0 opens at birth", x.opened(0), 50);
    due.is("nobody writes ahead of birth", x.written(1), 0);
    due.is("told more at birth", x.opened(2), 50);
    due.is("5 years early", x.opened(3), 51);
    due.is("5 years late", x.opened(4), 65);
    due.is("both tell more", x.opened(5), 60);
    due.is("older already, in its last year", x.opened(6), 50);
    due.is("nobody writes behind its end", x.written(7), 0);
    due.is("in the reader's last year", x.opened(8), 80);
  }

  private static void whoIsNotThere() {
    AgeLetters x = Due.of("0090o");
    x.knows(0, 1);
    x.knows(5, 1);
    x.letter(0, 5, 10, 0, -1);
    x.letter(5, 0, 10, 0, -1);
    due.is("written to nobody", x.written(0), 1);
    due.is("never opened", x.opened(0), AgeLetters.NONE);
    due.is("written by nobody", x.written(1), 0);
    due.is("sealed()", x.sealed(), 1);
    due.is("tooSoon()", x.tooSoon(), 0);
    due.is("waits(199, 0)", x.waits(199, 0), 1);
    x.type('x');
    due.is("with a fault nobody writes", x.written(0), 0);
    due.is("waits(199, 0)", x.waits(199, 0), 0);
  }

  private static void elders() {
    // 1 is the elder; 2 dies in 39, 3 in 40; 4 is born in 40, 5 in 41.
    AgeLetters x = Due.of("0099o;1080e;0039o;0040o;4050f;4150o");
    x.knows(0, 3);
    x.letter(0, 1, 30, 0, -1);
    due.is("opened(0)", x.opened(0), 40);
    int[] learned = {0, -1, -1, 40, 40, -1};
    for (int p = 0; p < 6; p++) {
      due.is("learned(" + p + ", 0)", x.learned(p, 0), learned[p]);
      due.is("known(39, " + p + ")", x.known(39, p) & 1, p == 0 ? 1 : 0);
      due.is("known(40, " + p + ")", x.known(40, p) & 1, learned[p] == -1 ? 0 : 1);
    }
    x.letter(1, 0, 50, 0, -1);
    due.is("the elder forgot it and cannot write it", x.written(1), 0);
    x.letter(0, 1, 30, 1, 0);
    due.is("nor does it know it, where it is needed", x.opened(2), AgeLetters.NONE);
    x.knows(1, 1);
    due.is("known already, it is not forgotten", x.known(199, 1), 1);
    due.is("written(1)", x.written(1), 1);
    due.is("opened(2)", x.opened(2), 40);
    due.is("read out all the same", x.learned(4, 1), 40);
  }

  private static void eldersHearOneAnother() {
    AgeLetters x = Due.of("0099o;0099e;0099e;0099o");
    x.knows(0, 1);
    x.letter(0, 1, 10, 0, -1);
    x.letter(0, 2, 10, 0, -1);
    due.is("the first elder hears it of the second", x.learned(1, 0), 10);
    due.is("the second of the first", x.learned(2, 0), 10);
    x.back();
    due.is("the first alone does not keep it", x.learned(1, 0), AgeLetters.NONE);
    x.letter(2, 3, 10, 0, -1);
    x.letter(2, 3, 11, 0, -1);
    due.is("heard in that year, not behind the year ahead", x.written(1), 0);
    due.is("written a year later", x.written(2), 1);
  }

  private static void knownBehindTheYearAhead() {
    AgeLetters x = Due.of("0050o;0050o;0050o");
    x.knows(0, 1);
    x.letter(0, 1, 0, 0, -1);
    x.letter(1, 2, 0, 0, -1);
    due.is("year 0: known of itself", x.opened(0), 0);
    due.is("year 0: not what is learned in it", x.written(1), 0);
    due.is("learned in year 0", x.learned(1, 0), 0);
    x.letter(1, 2, 1, 0, -1);
    due.is("year 1", x.opened(2), 1);
    due.is("learned(2, 0)", x.learned(2, 0), 1);
  }

  private static void loudness() {
    AgeLetters x = Due.of("0090o;0090o");
    due.is("loud(0) of none", x.loud(0), AgeLetters.NONE);
    due.is("loud(1) of none", x.loud(1), AgeLetters.NONE);
    x.knows(0, 255);
    x.letter(0, 1, 30, 0, -1);
    x.letter(0, 1, 20, 1, -1);
    due.is("of like ones the first", x.loud(0), 20);
    due.is("how many", x.loud(1), 1);
    x.letter(0, 1, 30, 2, -1);
    due.is("the year of most", x.loud(0), 30);
    due.is("how many", x.loud(1), 2);
    x.letter(0, 1, 20, 3, -1);
    due.is("of like ones the first", x.loud(0), 20);
    x.letter(0, 1, 0, 4, -1);
    x.letter(0, 1, 0, 5, -1);
    x.letter(0, 1, 0, 6, -1);
    due.is("year 0", x.loud(0), 0);
    due.is("three", x.loud(1), 3);
    due.is("loud(2)", x.loud(2), AgeLetters.BAD);
    due.is("loud(-1)", x.loud(-1), AgeLetters.BAD);
  }

  private static void grace() {
    // A year more of its reader alone: 1 must live to 50, 2 to 51.
    AgeLetters x = Due.of("0099o;1039o;1039o");
    x.knows(0, 3);
    x.letter(0, 1, 40, 0, -1);
    x.letter(0, 2, 41, 0, -1);
    x.letter(1, 2, 50, 1, -1);
    due.is("sealed()", x.sealed(), 3);
    due.is("tooSoon()", x.tooSoon(), 1);
    x = Due.of("9999e;9999o");
    x.knows(0, 1);
    x.letter(0, 1, 198, 0, -1);
    due.is("the last year that is lived", x.opened(0), 198);
    x = Due.of("9899o;9999o");
    x.knows(1, 1);
    x.letter(1, 0, 198, 0, -1);
    due.is("the reader's end was in 197", x.opened(0), AgeLetters.NONE);
    due.is("a year's grace", x.tooSoon(), 1);
    x = Due.of("9999o;0099o");
    x.knows(1, 1);
    x.letter(1, 0, 99, 0, -1);
    due.is("99 years later", x.opened(0), 198);
  }

  private static void wrongNumbers() {
    AgeLetters x = villageOf();
    int[] letters = {-1, 8, 12, Integer.MAX_VALUE, Integer.MIN_VALUE};
    for (int l : letters) {
      due.is("opened(" + l + ")", x.opened(l), AgeLetters.BAD);
      due.is("written(" + l + ")", x.written(l), AgeLetters.BAD);
    }
    int[] wrong = {-1, 200, Integer.MAX_VALUE, Integer.MIN_VALUE};
    for (int w : wrong) {
      due.is("waits(" + w + ", 0)", x.waits(w, 0), AgeLetters.BAD);
      due.is("known(" + w + ", 0)", x.known(w, 0), AgeLetters.BAD);
      due.is("known(0, " + w + ")", x.known(0, w), AgeLetters.BAD);
      due.is("learned(" + w + ", 0)", x.learned(w, 0), AgeLetters.BAD);
      due.is("learned(0, " + w + ")", x.learned(0, w), AgeLetters.BAD);
    }
    due.is("waits(0, 2)", x.waits(0, 2), AgeLetters.BAD);
    due.is("waits(0, -1)", x.waits(0, -1), AgeLetters.BAD);
    due.is("known(0, 4)", x.known(0, 4), AgeLetters.BAD);
    due.is("learned(4, 0)", x.learned(4, 0), AgeLetters.BAD);
    due.is("learned(0, 8)", x.learned(0, 8), AgeLetters.BAD);
  }
}
