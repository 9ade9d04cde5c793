/** The boundary cases of promises 11 to 19: age, opened, written, waits, known, learned, sealed, loud, tooSoon. */
public final class YearsEdgesTest {
  private static final Due due = new Due();
  private static final int NONE = AgeLetters.NONE;
  private static final int BAD = AgeLetters.BAD;

  public static void main(String[] args) {
    ages();
    agesForged();
    ageAsksForYearsAndPersons();
    openedWhenAsOld();
    openedWhenAsOldIsTold();
    openedWhileTheReaderLives();
    openedInTheFirstYearAndTheLast();
    openedIfTheReaderIsThere();
    openedByNeededWords();
    openedOfTwelve();
    writtenWhileTheWriterLives();
    writtenByWhoKnows();
    writtenBehindTheYearAhead();
    waitsFromTo();
    waitsAsksForYears();
    waitsOfTwelve();
    knownBehind();
    knownOfElders();
    knownFromElders();
    knownIsKept();
    learnedFirst();
    sealedOnes();
    loudOnes();
    tooSoonByOneYear();
    tooSoonOfTheReaderAlone();
    tooSoonAtTheLastYear();
    due.endOf(11, 12, 13, 14, 15, 16, 17, 18, 19);
  }

  // ---- 11 age

  private static void ages() {
    due.promise(11, "it LIVES from BORN on till the YEAR in which it is as old as at its END (that one, too)");
    int[][] people = {{0, 1}, {0, 99}, {20, 50}, {50, 1}, {99, 1}, {99, 99}, {98, 99}};
    for (int[] p : people) {
      AgeLetters x = Due.of(String.format("%02d%02do", p[0], p[1]));
      for (int year = 0; year < 200; year++) {
        boolean lives = year >= p[0] && year <= p[0] + p[1];
        due.is("age(0, " + year + ") of " + p[0] + ", " + p[1], x.age(0, year), lives ? year - p[0] : NONE);
      }
    }
  }

  private static void agesForged() {
    due.promise(11, "It tells its AGE, or 5 more (f)");
    AgeLetters x = Due.of("2050o;2050e;2050f;9999f;0001f");
    int[][] rows = {
        {0, 19, NONE}, {0, 20, 0}, {0, 70, 50}, {0, 71, NONE},
        {1, 19, NONE}, {1, 20, 0}, {1, 70, 50}, {1, 71, NONE},
        {2, 15, NONE}, {2, 19, NONE}, {2, 20, 5}, {2, 65, 50}, {2, 70, 55}, {2, 71, NONE},
        {3, 98, NONE}, {3, 99, 5}, {3, 198, 104}, {3, 199, NONE}, {4, 0, 5}, {4, 1, 6}, {4, 2, NONE}};
    for (int[] r : rows) {
      due.is("age(" + r[0] + ", " + r[1] + ")", x.age(r[0], r[1]), r[2]);
    }
  }

  private static void ageAsksForYearsAndPersons() {
    due.promise(11, "BAD: a PERSON that is not there, a YEAR but 0 to 199");
    AgeLetters x = Due.of("0099o;0099o");
    int[][] bad = {{-1, 0}, {2, 0}, {9, 0}, {10, 0}, {0, -1}, {0, 200}, {2, 200},
        {Integer.MIN_VALUE, 0}, {Integer.MAX_VALUE, 0}, {0, Integer.MIN_VALUE}, {0, Integer.MAX_VALUE}};
    for (int[] b : bad) {
      due.is("age(" + b[0] + ", " + b[1] + ")", x.age(b[0], b[1]), BAD);
    }
    due.is("age(1, 0)", x.age(1, 0), 0);
    due.is("age(1, 199)", x.age(1, 199), NONE);
  }

  // ---- 12 opened

  /** 0 knows words 0 and 1 of itself and writes word 0 to 1 in a year. */
  private static AgeLetters two(String people, int year, int needed) {
    AgeLetters x = Due.of(people);
    x.knows(0, 3);
    x.letter(0, 1, year, 0, needed);
    return x;
  }

  private static void openedWhenAsOld() {
    due.promise(12, "tells an AGE no less than the one that its writer told when it was WRITTEN");
    due.is("as old 20 years later", two("0099o;2070o", 30, -1).opened(0), 50);
    due.is("as old a year later", two("0099o;0199o", 30, -1).opened(0), 31);
    due.is("as old just then", two("0099o;0099o", 30, -1).opened(0), 30);
    due.is("older by a year already", two("0199o;0099o", 30, -1).opened(0), 30);
    due.is("older by far already", two("5050o;0099o", 60, -1).opened(0), 60);
    due.is("of AGE 0, at birth", two("2050o;6050o", 20, -1).opened(0), 60);
    due.is("of AGE 1, a year behind birth", two("2050o;6050o", 21, -1).opened(0), 61);
  }

  private static void openedWhenAsOldIsTold() {
    due.promise(12, "tells an AGE, 5 more (f)");
    due.is("the writer tells 5 more", two("0099f;2070o", 30, -1).opened(0), 55);
    due.is("the reader tells 5 more", two("0099o;2070f", 30, -1).opened(0), 45);
    due.is("both tell 5 more", two("0099f;2070f", 30, -1).opened(0), 50);
    due.is("AGE 5 of a reader who tells it at birth", two("0099o;2070f", 5, -1).opened(0), 20);
    due.is("AGE 4 of a reader who tells 5 at birth", two("0099o;2070f", 4, -1).opened(0), 20);
    due.is("AGE 6 of a reader who tells 5 at birth", two("0099o;2070f", 6, -1).opened(0), 21);
    due.is("AGE 5 is told at birth by the writer", two("0099f;2070o", 0, -1).opened(0), 25);
  }

  private static void openedWhileTheReaderLives() {
    due.promise(12, "OPENED, if its reader LIVES");
    due.is("in its last year", two("0099o;2030o", 30, -1).opened(0), 50);
    due.is("its last year was the one ahead", two("0099o;2029o", 30, -1).opened(0), NONE);
    due.is("f in its last year", two("0099o;2030f", 35, -1).opened(0), 50);
    due.is("f, its last year was the one ahead", two("0099o;2030f", 36, -1).opened(0), NONE);
    due.is("of f in its last year", two("0099f;2030o", 25, -1).opened(0), 50);
    due.is("written in the reader's last year", two("5050o;0060o", 60, -1).opened(0), 60);
    due.is("written a year behind it", two("5050o;0060o", 61, -1).opened(0), NONE);
    due.is("written a year ahead of the reader's birth", two("0099o;3050o", 29, -1).opened(0), 59);
    due.is("in the year of an END of 1", two("0099o;3001o", 1, -1).opened(0), 31);
    due.is("behind the END of 1", two("0099o;3001o", 2, -1).opened(0), NONE);
    due.is("the writer may be dead long since", two("0010o;9099o", 10, -1).opened(0), 100);
  }

  private static void openedInTheFirstYearAndTheLast() {
    due.promise(12, "the YEAR in which it is OPENED, of YEARS 0 to 199");
    due.is("in year 0", two("0099o;0099o", 0, -1).opened(0), 0);
    due.is("in year 1", two("0099o;0199o", 0, -1).opened(0), 1);
    due.is("in year 198, 99 years old", two("0099o;9999o", 99, -1).opened(0), 198);
    due.is("in year 197", two("0099o;9899o", 99, -1).opened(0), 197);
    due.is("written and opened in year 198", two("9999o;9999o", 198, -1).opened(0), 198);
    due.is("written in year 199 it cannot be, nobody living", two("9999o;9999o", 199, -1).written(0), 0);
  }

  private static void openedIfTheReaderIsThere() {
    due.promise(12, "OPENED, if its reader is there");
    AgeLetters x = Due.of("0099o;0099o");
    x.knows(0, 1);
    x.letter(0, 2, 30, 0, -1);
    x.letter(0, 9, 30, 0, -1);
    due.is("opened(0)", x.opened(0), NONE);
    due.is("opened(1)", x.opened(1), NONE);
    due.is("written(0)", x.written(0), 1);
    Due.typeAll(x, ";0099o");
    due.is("opened(0), the reader being there", x.opened(0), 30);
    x.wipe();
    due.is("opened(0), nobody being there", x.opened(0), NONE);
    due.promise(12, "BAD: no such LETTER");
    due.is("opened(2)", x.opened(2), BAD);
    due.is("opened(-1)", x.opened(-1), BAD);
  }

  private static void openedByNeededWords() {
    due.promise(12, "KNOWS the WORD that is NEEDED (if any)");
    due.is("not known", two("0099o;2070o", 30, 1).opened(0), NONE);
    AgeLetters x = two("0099o;2070o", 30, 1);
    x.knows(1, 2);
    due.is("known of itself", x.opened(0), 50);
    x.knows(1, 253);
    due.is("all others known", x.opened(0), NONE);
    due.is("word 7 is needed", needs(7, 128), 50);
    due.is("word 7 is needed, all others known", needs(7, 127), NONE);
    due.is("word 0 is needed", needs(0, 1), 50);
    due.is("word 0 is needed, which it brings", needs(0, 254), NONE);
    due.promise(12, "also just so by a LETTER opened ahead of this one");
    AgeLetters y = two("0099o;2070o", 30, -1);
    y.letter(0, 1, 30, 1, 0);
    due.is("by the one ahead, in that year", y.opened(1), 50);
    AgeLetters z = two("0099o;2070o", 30, 1);
    z.letter(0, 1, 30, 1, -1);
    due.is("by one behind it, a year later", z.opened(0), 51);
    z.wipe();
    Due.typeAll(z, "0099o;2030o");
    due.is("by one behind it, in the reader's last year: never", z.opened(0), NONE);
    due.is("the one behind it", z.opened(1), 50);
    AgeLetters late = two("0099o;2070o", 30, 1);
    late.letter(0, 1, 50, 1, -1);
    due.is("due in 50, needed till 70", late.opened(0), 71);
  }

  private static int needs(int needed, int known) {
    AgeLetters x = two("0099o;2070o", 30, needed);
    x.knows(1, known);
    return x.opened(0);
  }

  private static void openedOfTwelve() {
    due.promise(12, "LETTERS, 12 at most (0 on): BAD");
    AgeLetters x = Due.of("0099o;0099o");
    x.knows(0, 255);
    for (int l = 0; l < 12; l++) {
      x.letter(0, 1, 10 * l > 99 ? 199 : 10 * l, l % 8, -1);
    }
    for (int l = 0; l < 12; l++) {
      due.is("opened(" + l + ")", x.opened(l), 10 * l > 99 ? NONE : 10 * l);
      due.is("written(" + l + ")", x.written(l), 10 * l > 99 ? 0 : 1);
    }
    for (int l : new int[] {-1, 12, 32, Integer.MIN_VALUE, Integer.MAX_VALUE}) {
      due.promise(12, "BAD: no such LETTER");
      due.is("opened(" + l + ")", x.opened(l), BAD);
      due.promise(13, "BAD: no such LETTER");
      due.is("written(" + l + ")", x.written(l), BAD);
    }
  }

  // ---- 13 written

  private static void writtenWhileTheWriterLives() {
    due.promise(13, "WRITTEN, if the writer LIVES");
    due.is("the year ahead of birth", two("2030o;0099o", 19, -1).written(0), 0);
    due.is("the year of birth", two("2030o;0099o", 20, -1).written(0), 1);
    due.is("the last year", two("2030o;0099o", 50, -1).written(0), 1);
    due.is("the year behind it", two("2030o;0099o", 51, -1).written(0), 0);
    due.is("f, the year behind its last", two("2030f;0099o", 51, -1).written(0), 0);
    due.is("year 0", two("0030o;0099o", 0, -1).written(0), 1);
    due.is("year 198", two("9999o;0099o", 198, -1).written(0), 1);
    due.is("year 199", two("9999o;0099o", 199, -1).written(0), 0);
    due.promise(13, "WRITTEN, if the writer is there");
    AgeLetters x = Due.of("0099o;0099o");
    x.knows(2, 1);
    x.letter(2, 0, 30, 0, -1);
    due.is("written(0)", x.written(0), 0);
    Due.typeAll(x, ";0099o");
    due.is("written(0), the writer being there", x.written(0), 1);
    x.undo();
    due.is("written(0), nobody being there", x.written(0), 0);
  }

  private static void writtenByWhoKnows() {
    due.promise(13, "WRITTEN, if the writer KNOWS the WORD");
    for (int word = 0; word < 8; word++) {
      AgeLetters x = Due.of("0099o;0099o");
      x.letter(0, 1, 30, word, -1);
      due.is("no word known", x.written(0), 0);
      x.knows(0, 1 << word);
      due.is("word " + word + " known alone", x.written(0), 1);
      x.knows(0, 255 - (1 << word));
      due.is("all but word " + word + " known", x.written(0), 0);
    }
  }

  private static void writtenBehindTheYearAhead() {
    due.promise(13, "KNOWS the WORD (behind the YEAR ahead)");
    AgeLetters x = two("0099o;2070o;0099o", 30, -1);
    x.letter(1, 2, 49, 0, -1);
    x.letter(1, 2, 50, 0, -1);
    x.letter(1, 2, 51, 0, -1);
    due.is("learned(1, 0)", x.learned(1, 0), 50);
    due.is("written the year ahead", x.written(1), 0);
    due.is("written in that year", x.written(2), 0);
    due.is("written the year behind", x.written(3), 1);
    due.promise(13, "KNOWS the WORD (behind the YEAR ahead), in year 0 of itself alone");
    AgeLetters y = two("0099o;0099o;0099o", 0, -1);
    y.letter(1, 2, 0, 0, -1);
    y.letter(1, 2, 1, 0, -1);
    due.is("known of itself, in year 0", y.written(0), 1);
    due.is("learned in year 0, in year 0", y.written(1), 0);
    due.is("learned in year 0, in year 1", y.written(2), 1);
    due.promise(13, "a LETTER that was not written in its YEAR is not written later");
    due.is("waits(199, 0)", y.waits(199, 0), 0);
    due.is("opened(1)", y.opened(1), NONE);
  }

  // ---- 14 waits

  private static void waitsFromTo() {
    due.promise(14, "behind a YEAR: LETTERS that WAIT, that were OPENED by then, as bits");
    AgeLetters x = two("0099o;2070o", 30, -1);
    int[][] rows = {{0, 0, 0}, {29, 0, 0}, {30, 1, 0}, {49, 1, 0}, {50, 0, 1}, {51, 0, 1}, {199, 0, 1}};
    for (int[] r : rows) {
      due.is("waits(" + r[0] + ", 0)", x.waits(r[0], 0), r[1]);
      due.is("waits(" + r[0] + ", 1)", x.waits(r[0], 1), r[2]);
    }
    AgeLetters y = two("0099o;0099o", 30, -1);
    due.is("opened at once it never waits: waits(29, 0)", y.waits(29, 0), 0);
    due.is("waits(30, 0)", y.waits(30, 0), 0);
    due.is("waits(29, 1)", y.waits(29, 1), 0);
    due.is("waits(30, 1)", y.waits(30, 1), 1);
    AgeLetters z = two("0099o;2010o", 30, -1);
    due.is("sealed it waits on: waits(30, 0)", z.waits(30, 0), 1);
    due.is("waits(31, 0), the reader's end being past", z.waits(31, 0), 1);
    due.is("waits(199, 0)", z.waits(199, 0), 1);
    due.is("waits(199, 1)", z.waits(199, 1), 0);
    due.is("who never wrote: waits(199, 0)", two("4099o;0099o", 39, -1).waits(199, 0), 0);
  }

  private static void waitsAsksForYears() {
    due.promise(14, "BAD: YEARS are 0 to 199; what = 0, 1");
    AgeLetters x = two("0099o;0099o", 0, -1);
    due.is("waits(0, 1)", x.waits(0, 1), 1);
    due.is("waits(199, 1)", x.waits(199, 1), 1);
    int[][] bad = {{-1, 0}, {-1, 1}, {200, 0}, {200, 1}, {0, -1}, {0, 2}, {199, 2}, {Integer.MIN_VALUE, 0},
        {Integer.MAX_VALUE, 1}, {0, Integer.MIN_VALUE}, {0, Integer.MAX_VALUE}};
    for (int[] b : bad) {
      due.is("waits(" + b[0] + ", " + b[1] + ")", x.waits(b[0], b[1]), BAD);
    }
  }

  private static void waitsOfTwelve() {
    due.promise(14, "LETTERS as bits, 12 at most");
    AgeLetters x = Due.of("0099o;0199o");
    x.knows(0, 1);
    due.is("none: waits(50, 0)", x.waits(50, 0), 0);
    for (int l = 0; l < 12; l++) {
      x.letter(0, 1, 50, 0, -1);
    }
    due.is("waits(50, 0)", x.waits(50, 0), 4095);
    due.is("waits(50, 1)", x.waits(50, 1), 0);
    due.is("waits(51, 0)", x.waits(51, 0), 0);
    due.is("waits(51, 1)", x.waits(51, 1), 4095);
    due.promise(17, "SEALED, as bits, of 12");
    due.is("sealed()", x.sealed(), 0);
    x.wipe();
    Due.typeAll(x, "0099o;0149o");
    due.is("sealed()", x.sealed(), 4095);
    due.promise(19, "TOO SOON, as bits, of 12");
    due.is("tooSoon()", x.tooSoon(), 4095);
    due.promise(18, "LOUD, of 12 in one YEAR");
    x.wipe();
    Due.typeAll(x, "0099o;0150o");
    due.is("loud(0)", x.loud(0), 51);
    due.is("loud(1)", x.loud(1), 12);
  }

  // ---- 15 known

  private static void knownBehind() {
    due.promise(15, "WORDS that a PERSON KNOWS behind a YEAR, as bits");
    AgeLetters x = two("0099o;2070o", 30, -1);
    due.is("known(49, 1)", x.known(49, 1), 0);
    due.is("known(50, 1)", x.known(50, 1), 1);
    due.is("known(199, 1)", x.known(199, 1), 1);
    due.is("known(0, 0)", x.known(0, 0), 3);
    due.is("behind its end, too: known(199, 0)", x.known(199, 0), 3);
    x.knows(1, 128);
    due.is("ahead of its birth, too: known(0, 1)", x.known(0, 1), 128);
    due.is("known(50, 1)", x.known(50, 1), 129);
    x.knows(1, 254);
    due.is("known(49, 1)", x.known(49, 1), 254);
    due.is("known(50, 1)", x.known(50, 1), 255);
    due.promise(15, "BAD: YEARS are 0 to 199, PERSONS that there are");
    int[][] bad = {{-1, 0}, {200, 0}, {0, -1}, {0, 2}, {199, 9}, {0, 10}, {200, 2}, {Integer.MIN_VALUE, 0},
        {Integer.MAX_VALUE, 0}, {0, Integer.MIN_VALUE}, {0, Integer.MAX_VALUE}};
    for (int[] b : bad) {
      due.is("known(" + b[0] + ", " + b[1] + ")", x.known(b[0], b[1]), BAD);
    }
  }

  private static void knownOfElders() {
    due.promise(15, "An ELDER itself forgets it, if it did not KNOW it already");
    AgeLetters x = two("0099o;2070e;0099o", 30, -1);
    due.is("opened(0)", x.opened(0), 50);
    due.is("known(50, 1)", x.known(50, 1), 0);
    due.is("known(199, 1)", x.known(199, 1), 0);
    due.is("the other: known(50, 2)", x.known(50, 2), 1);
    x.knows(1, 1);
    due.is("known already: known(50, 1)", x.known(50, 1), 1);
    due.is("known(199, 1)", x.known(199, 1), 1);
    AgeLetters y = two("0099o;2070e;2070e", 30, -1);
    y.letter(0, 2, 30, 0, -1);
    due.is("2 heard it of 1, then 1 of 2: known(50, 1)", y.known(50, 1), 1);
    due.is("2 heard it of 1 just so, and keeps it: known(50, 2)", y.known(50, 2), 1);
    AgeLetters z = two("0099o;2070e;2070o", 30, -1);
    z.letter(0, 1, 30, 1, 0);
    due.is("what it forgot just so is not known where it is NEEDED", z.opened(1), NONE);
  }

  private static void knownFromElders() {
    due.promise(15, "all others who LIVE in that YEAR KNOW it from then on");
    // 1 reads out in 50. The others: born in 49, 50, 51; at their end in 49, 50, 51.
    AgeLetters x = two("0040o;2070e;4920o;5020o;5120o;0049o;0050f;0051e", 30, -1);
    due.is("opened(0)", x.opened(0), 50);
    int[] want = {3, 0, 1, 1, 0, 0, 1, 1};
    for (int p = 0; p < 8; p++) {
      due.is("known(49, " + p + ")", x.known(49, p), p == 0 ? 3 : 0);
      due.is("known(50, " + p + ")", x.known(50, p), want[p]);
      due.is("known(199, " + p + ")", x.known(199, p), want[p]);
    }
    due.promise(15, "An ELDER READS it OUT: who is none does not");
    due.is("known(199, 2)", two("0099o;2070o;0099o", 30, -1).known(199, 2), 0);
    due.is("known(199, 2) of f", two("0099o;2070f;0099o", 30, -1).known(199, 2), 0);
    due.promise(15, "read out to ten at most");
    AgeLetters y = two("0099o;0099e;0099o;0099o;0099o;0099o;0099o;0099o;0099o;0099o", 30, -1);
    due.is("known(30, 9)", y.known(30, 9), 1);
    due.is("known(29, 9)", y.known(29, 9), 0);
    due.is("known(30, 8)", y.known(30, 8), 1);
  }

  private static void knownIsKept() {
    due.promise(15, "from then on");
    AgeLetters x = two("0099o;2030o", 30, -1);
    for (int year = 0; year < 200; year++) {
      due.is("known(" + year + ", 1)", x.known(year, 1), year < 50 ? 0 : 1);
    }
  }

  // ---- 16 learned

  private static void learnedFirst() {
    due.promise(16, "the first YEAR behind which a PERSON KNOWS a WORD (0, if of itself); NONE");
    AgeLetters x = two("0099o;2070o", 30, -1);
    x.letter(0, 1, 40, 0, -1);
    due.is("the first of two", x.learned(1, 0), 50);
    due.is("never", x.learned(1, 1), NONE);
    due.is("of itself", x.learned(0, 0), 0);
    x.knows(1, 1);
    due.is("of itself, not by letters, and ahead of its birth", x.learned(1, 0), 0);
    due.is("in year 0", two("0099o;0099o", 0, -1).learned(1, 0), 0);
    due.is("in year 1", two("0099o;0099o", 1, -1).learned(1, 0), 1);
    due.is("in year 198", two("0099o;9999o", 99, -1).learned(1, 0), 198);
    due.is("an elder who forgot it", two("0099o;9999e", 99, -1).learned(1, 0), NONE);
    for (int word = 0; word < 8; word++) {
      AgeLetters each = Due.of("0099o;2070o");
      each.knows(0, 255);
      each.letter(0, 1, 40, word, -1);
      each.letter(0, 1, 30, word, -1);
      each.letter(0, 1, 50, word, -1);
      due.is("the first of three: learned(1, " + word + ")", each.learned(1, word), 50);
      each.knows(1, 1 << word);
      due.is("of itself, though there are letters: learned(1, " + word + ")", each.learned(1, word), 0);
    }
    due.promise(16, "a WORD (0 to 7), a PERSON that there is: BAD");
    x.knows(1, 128);
    due.is("learned(1, 7)", x.learned(1, 7), 0);
    int[][] bad = {{-1, 0}, {2, 0}, {9, 0}, {10, 0}, {0, -1}, {0, 8}, {Integer.MIN_VALUE, 0}, {Integer.MAX_VALUE, 0},
        {0, Integer.MIN_VALUE}, {0, Integer.MAX_VALUE}};
    for (int[] b : bad) {
      due.is("learned(" + b[0] + ", " + b[1] + ")", x.learned(b[0], b[1]), BAD);
    }
  }

  // ---- 17 sealed, 18 loud

  private static void sealedOnes() {
    due.promise(17, "LETTERS that were WRITTEN and never OPENED");
    due.is("none", new AgeLetters().sealed(), 0);
    due.is("opened in the reader's last year", two("0099o;2030o", 30, -1).sealed(), 0);
    due.is("the reader's last year is the one ahead", two("0099o;2029o", 30, -1).sealed(), 1);
    due.is("not written", two("3199o;2029o", 30, -1).sealed(), 0);
    due.is("opened in year 198", two("0099o;9999o", 99, -1).sealed(), 0);
    due.is("the reader is not there", two("0099o", 30, -1).sealed(), 1);
    due.is("the writer is not there", two("", 30, -1).sealed(), 0);
  }

  private static void loudOnes() {
    due.promise(18, "NONE: none is");
    AgeLetters none = two("0099o;2029o", 30, -1);
    due.is("written, but not opened: loud(0)", none.loud(0), NONE);
    due.is("loud(1)", none.loud(1), NONE);
    due.is("no letters: loud(0)", new AgeLetters().loud(0), NONE);
    due.is("no letters: loud(1)", new AgeLetters().loud(1), NONE);
    due.promise(18, "the YEAR in which most are OPENED; how many");
    due.is("one in year 0: loud(0)", two("0099o;0099o", 0, -1).loud(0), 0);
    due.is("one in year 0: loud(1)", two("0099o;0099o", 0, -1).loud(1), 1);
    due.is("one in year 198: loud(0)", two("0099o;9999o", 99, -1).loud(0), 198);
    due.is("one in year 198: loud(1)", two("0099o;9999o", 99, -1).loud(1), 1);
    AgeLetters behind = two("0099o;2029o;0099o", 30, -1);
    behind.letter(0, 2, 31, 0, -1);
    due.is("one behind a sealed one: loud(0)", behind.loud(0), 31);
    due.is("loud(1)", behind.loud(1), 1);
    due.promise(18, "of like ones the first");
    AgeLetters x = two("0099o;0099o", 40, -1);
    x.letter(0, 1, 30, 0, -1);
    due.is("one each: loud(0)", x.loud(0), 30);
    x.letter(0, 1, 50, 0, -1);
    due.is("one each of three: loud(0)", x.loud(0), 30);
    x.letter(0, 1, 50, 0, -1);
    due.is("one more in 50: loud(0)", x.loud(0), 50);
    due.is("loud(1)", x.loud(1), 2);
    x.letter(0, 1, 40, 0, -1);
    due.is("two in 40 and 50: loud(0)", x.loud(0), 40);
    due.is("loud(1)", x.loud(1), 2);
    due.promise(18, "what = 0, 1: BAD");
    for (int what : new int[] {-1, 2, Integer.MIN_VALUE, Integer.MAX_VALUE}) {
      due.is("loud(" + what + ")", x.loud(what), BAD);
      due.is("of none: loud(" + what + ")", none.loud(what), BAD);
    }
  }

  // ---- 19 tooSoon

  private static void tooSoonByOneYear() {
    due.promise(19, "if its reader's END was one greater");
    due.is("none", new AgeLetters().tooSoon(), 0);
    due.is("opened as it is", two("0099o;2030o", 30, -1).tooSoon(), 0);
    due.is("a year too soon", two("0099o;2029o", 30, -1).tooSoon(), 1);
    due.is("two years too soon", two("0099o;2028o", 30, -1).tooSoon(), 0);
    due.is("not written", two("3199o;2029o", 30, -1).tooSoon(), 0);
    due.is("the reader is not there", two("0099o", 30, -1).tooSoon(), 0);
    due.is("a needed word that is not known", two("0099o;2029o", 30, 1).tooSoon(), 0);
    AgeLetters x = two("0099o;2030o", 30, 1);
    x.letter(0, 1, 30, 1, -1);
    due.is("a needed word that comes in its last year", x.tooSoon(), 1);
    due.is("nothing is changed: sealed()", x.sealed(), 1);
    due.is("person(1, 1)", x.person(1, 1), 30);
    due.is("age(1, 51)", x.age(1, 51), NONE);
  }

  private static void tooSoonOfTheReaderAlone() {
    due.promise(19, "if its reader's END alone was one greater");
    // 0 would write the letter with the needed word, had it a year more itself.
    AgeLetters x = two("0049o;2050o", 20, 1);
    x.letter(0, 1, 50, 1, -1);
    due.is("sealed()", x.sealed(), 1);
    due.is("the writer's end is not the reader's", x.tooSoon(), 0);
    // Each of two readers lacks a year; each has its own grace alone.
    AgeLetters y = two("0099o;2029o;2029o", 30, -1);
    y.letter(0, 2, 30, 0, -1);
    y.letter(0, 2, 31, 0, -1);
    due.is("two readers", y.tooSoon(), 3);
    // 1 opens the letter in its year of grace and writes no more; 2 would need it a year earlier.
    AgeLetters z = two("0099o;2029o;2031o", 30, -1);
    z.letter(1, 2, 50, 0, -1);
    due.is("what comes of another's grace is none", z.tooSoon(), 1);
    // With a year more elder 1 reads word 0 out in 50, and 2 needs it in 60, its own year of grace.
    AgeLetters ahead = Due.of("0099o;0049e;0059o");
    ahead.knows(0, 3);
    ahead.letter(0, 1, 50, 0, -1);
    ahead.letter(0, 2, 60, 1, 0);
    due.is("sealed()", ahead.sealed(), 3);
    due.is("2 would need the grace of 1, too", ahead.tooSoon(), 1);
    AgeLetters behind = Due.of("0099o;0049e;0059o");
    behind.knows(0, 3);
    behind.letter(0, 2, 60, 1, 0);
    behind.letter(0, 1, 50, 0, -1);
    due.is("2 would need the grace of 1, too", behind.tooSoon(), 2);
  }

  private static void tooSoonAtTheLastYear() {
    due.promise(19, "one greater, of an END of 99 and in YEAR 199");
    AgeLetters x = two("0099f;9999o", 95, -1);
    due.is("written, 100 years being told", x.written(0), 1);
    due.is("opened(0)", x.opened(0), NONE);
    due.is("99 and one, in year 199", x.tooSoon(), 1);
    due.is("101 years told", two("0099f;9999o", 96, -1).tooSoon(), 0);
    due.is("100 years, born in 98", two("0099f;9899o", 95, -1).tooSoon(), 1);
    due.is("an END of 1 and one", two("0099o;3001o", 2, -1).tooSoon(), 1);
    due.is("an END of 1 and two", two("0099o;3001o", 3, -1).tooSoon(), 0);
  }
}
