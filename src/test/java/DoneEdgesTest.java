/** The boundary cases of promises 23 to 28: done, forget, said, forged, chance, drawn. */
public final class DoneEdgesTest {
  private static final Due due = new Due();
  private static final int BAD = AgeLetters.BAD;
  private static final long LONG_BAD = Long.MIN_VALUE + 2;
  private static final String TEN = "0099o;0099o;0099o;0099o;0099o;0099o;0099o;0099o;0099o;0099o";

  public static void main(String[] args) {
    doneNumbers();
    eightDone();
    forgets();
    saidOfNothingDone();
    saidBehindAYear();
    saidOfWhoIsNotThere();
    saidOfAll();
    saidNumbers();
    forgedOfTen();
    forgedByFive();
    forgedSetsAsideWhoTellsMore();
    chanceOfSixteenths();
    chanceInLowestTerms();
    chanceOfEnds();
    chanceOfTen();
    chanceTillTheLastYear();
    chanceNumbers();
    drawnLots();
    drawnOfEnds();
    drawnNumbers();
    due.endOf(23, 24, 25, 26, 27, 28);
  }

  // ---- 23 done, 24 forget

  private static void doneNumbers() {
    due.promise(23, "behind a YEAR (0 to 199) a PERSON (0 to 9) KNEW a WORD (0 to 7) (1), or did not (0)");
    int[][] good = {{0, 5, 3, 0}, {199, 5, 3, 0}, {50, 0, 3, 0}, {50, 9, 3, 0}, {50, 5, 0, 0}, {50, 5, 7, 0}, {50, 5, 3, 1}};
    AgeLetters x = new AgeLetters();
    for (int[] g : good) {
      due.is("done" + java.util.Arrays.toString(g), x.done(g[0], g[1], g[2], g[3]), 1);
      x.forget();
    }
    int[][] bad = {{-1, 5, 3, 0}, {200, 5, 3, 0}, {50, -1, 3, 0}, {50, 10, 3, 0}, {50, 5, -1, 0}, {50, 5, 8, 0},
        {50, 5, 3, -1}, {50, 5, 3, 2}};
    for (int[] b : bad) {
      due.is("done" + java.util.Arrays.toString(b), x.done(b[0], b[1], b[2], b[3]), BAD);
      due.is("count(5)", x.count(5), 0);
    }
    for (int huge : new int[] {Integer.MIN_VALUE, Integer.MAX_VALUE}) {
      due.is("done(" + huge + ", ..)", x.done(huge, 5, 3, 0), BAD);
      due.is("done(.., " + huge + ", ..)", x.done(50, huge, 3, 0), BAD);
      due.is("done(.., " + huge + ", 0)", x.done(50, 5, huge, 0), BAD);
      due.is("done(.., " + huge + ")", x.done(50, 5, 3, huge), BAD);
    }
    due.is("count(5)", x.count(5), 0);
  }

  private static void eightDone() {
    due.promise(23, "DONE, 8 at most: how many; FULL");
    AgeLetters x = Due.of("0099o;0099o");
    x.knows(0, 255);
    x.letter(0, 1, 50, 0, -1);
    for (int i = 1; i <= 8; i++) {
      due.is("done, the " + i + "th", x.done(0, 0, i - 1, 1), i);
      due.is("count(5)", x.count(5), i);
    }
    due.is("the ninth", x.done(0, 1, 0, 1), AgeLetters.FULL);
    due.is("count(5)", x.count(5), 8);
    due.is("it does not count: said(0)", x.said(0), 255);
    due.promise(23, "BAD ahead of FULL");
    due.is("done(200, 0, 0, 0)", x.done(200, 0, 0, 0), BAD);
    due.is("done(0, 0, 0, 2)", x.done(0, 0, 0, 2), BAD);
    due.promise(23, "the eighth counts");
    x.forget();
    for (int i = 0; i < 7; i++) {
      x.done(0, 0, i, 1);
    }
    due.is("the eighth", x.done(0, 0, 7, 0), 8);
    due.is("said(0)", x.said(0), 0);
    due.is("forged()", x.forged(), 0);
  }

  private static void forgets() {
    due.promise(24, "All DONE are forgotten: how many");
    AgeLetters x = Due.of("0099o;0099o");
    x.letter(0, 1, 50, 0, -1);
    due.is("forget() of none", x.forget(), 0);
    x.done(0, 0, 0, 1);
    due.is("said(0)", x.said(0), 0);
    due.is("forget() of one", x.forget(), 1);
    due.is("said(0)", x.said(0), 255);
    due.is("forget() again", x.forget(), 0);
    for (int i = 0; i < 8; i++) {
      x.done(0, 0, 0, 1);
    }
    due.is("forget() of eight", x.forget(), 8);
    due.is("count(5)", x.count(5), 0);
    due.is("forged()", x.forged(), Due.bits(0, 1, 10));
    due.is("done, the first", x.done(0, 0, 0, 0), 1);
    due.is("said(0)", x.said(0), 255);
  }

  // ---- 25 said

  /** 0 knows all words and writes word 0 to 1, who opens it in 30. */
  private static AgeLetters two() {
    AgeLetters x = Due.of("0099o;0099o");
    x.knows(0, 255);
    x.letter(0, 1, 30, 0, -1);
    return x;
  }

  private static void saidOfNothingDone() {
    due.promise(25, "WORDS (0 to 7) that it may have, as bits");
    AgeLetters x = two();
    due.is("nothing done", x.said(0), 255);
    for (int word = 0; word < 8; word++) {
      x.forget();
      x.done(30, 1, word, 1);
      due.is("word " + word + " known", x.said(0), 1 << word);
      x.forget();
      x.done(30, 1, word, 0);
      due.is("word " + word + " not known", x.said(0), 255 - (1 << word));
    }
    x.done(30, 1, 7, 1);
    x.done(30, 1, 7, 0);
    due.is("both", x.said(0), 0);
    due.is("the letter is as it was: known(199, 1)", x.known(199, 1), 1);
    due.promise(25, "WORDS that its writer does not KNOW");
    x = two();
    x.knows(0, 1);
    x.done(199, 1, 3, 1);
    due.is("one that it cannot write", x.said(0), 0);
    x.forget();
    x.done(199, 1, 0, 0);
    due.is("any but its own", x.said(0), 254);
  }

  private static void saidBehindAYear() {
    due.promise(25, "behind a YEAR a PERSON KNEW a WORD (1), or did not (0)");
    int[][] rows = {{29, 1, 0}, {30, 1, 4}, {31, 1, 4}, {199, 1, 4}, {0, 0, 255}, {29, 0, 255}, {30, 0, 251}, {199, 0, 251}};
    for (int[] r : rows) {
      AgeLetters x = two();
      x.done(r[0], 1, 2, r[1]);
      due.is("done(" + r[0] + ", 1, 2, " + r[1] + "): said(0)", x.said(0), r[2]);
    }
    AgeLetters y = two();
    y.done(0, 0, 7, 1);
    due.is("known of itself, behind year 0", y.said(0), 255);
    y.done(0, 0, 7, 0);
    due.is("not so", y.said(0), 0);
  }

  private static void saidOfWhoIsNotThere() {
    due.promise(25, "Who is not there never does");
    for (int person : new int[] {2, 9}) {
      AgeLetters x = two();
      x.knows(person, 255);
      x.done(199, person, 0, 0);
      due.is("it did not: said(0)", x.said(0), 255);
      x.done(199, person, 0, 1);
      due.is("it did: said(0)", x.said(0), 0);
    }
    AgeLetters y = two();
    y.done(0, 0, 0, 0);
    y.type(';');
    due.is("with a fault nobody did", y.said(0), 255);
  }

  private static void saidOfAll() {
    due.promise(25, "so that all that was DONE comes out so");
    AgeLetters x = two();
    for (int word = 0; word < 7; word++) {
      x.done(50, 1, word, 0);
    }
    due.is("seven are not", x.said(0), 128);
    x.done(50, 1, 7, 0);
    due.is("none is", x.said(0), 0);
  }

  private static void saidNumbers() {
    due.promise(25, "LETTERS, 12 at most (0 on): BAD");
    AgeLetters x = two();
    due.is("said(1)", x.said(1), BAD);
    for (int l = 1; l < 12; l++) {
      x.letter(0, 1, 30 + l, 1, -1);
    }
    x.done(41, 1, 5, 1);
    x.done(40, 1, 5, 0);
    due.is("said(11)", x.said(11), 32);
    due.is("said(10)", x.said(10), 0);
    for (int letter : new int[] {-1, 12, Integer.MIN_VALUE, Integer.MAX_VALUE}) {
      due.is("said(" + letter + ")", x.said(letter), BAD);
    }
  }

  // ---- 26 forged

  private static void forgedOfTen() {
    due.promise(26, "as bits (of PERSONS that there are; bit 10: nobody is)");
    due.is("of nobody", new AgeLetters().forged(), 1024);
    due.is("of one", Due.of("0099o").forged(), 1025);
    AgeLetters x = Due.of(TEN);
    due.is("of ten", x.forged(), 2047);
    x.knows(9, 1);
    x.letter(9, 0, 30, 0, -1);
    x.done(30, 0, 0, 0);
    due.is("only if the tenth is", x.forged(), Due.bits(9));
    x.forget();
    x.done(30, 0, 0, 1);
    due.is("all but the tenth", x.forged(), 2047 - 512);
    x.done(30, 0, 0, 0);
    due.is("nobody, and not nobody", x.forged(), 0);
    due.promise(26, "With a FAULT there is nobody");
    AgeLetters y = Due.of("0099o;");
    due.is("forged()", y.forged(), 1024);
    y.done(0, 0, 0, 1);
    due.is("who is not there never does: forged()", y.forged(), 0);
  }

  private static void forgedByFive() {
    due.promise(26, "who may be the only one that tells 5 more");
    // 1 opens it in 50; in 45, if it tells 5 more; in 55, if the writer does.
    int[][] rows = {{44, 1, 0}, {45, 1, 2}, {49, 1, 2}, {50, 1, 1026}, {54, 1, 1026}, {55, 1, 1027},
        {44, 0, 1027}, {45, 0, 1025}, {49, 0, 1025}, {50, 0, 1}, {54, 0, 1}, {55, 0, 0}};
    for (int[] r : rows) {
      AgeLetters x = Due.of("0099o;2070o");
      x.knows(0, 1);
      x.letter(0, 1, 30, 0, -1);
      x.done(r[0], 1, 0, r[1]);
      due.is("done(" + r[0] + ", 1, 0, " + r[1] + "): forged()", x.forged(), r[2]);
    }
  }

  private static void forgedSetsAsideWhoTellsMore() {
    due.promise(26, "all others telling their AGE");
    for (String people : new String[] {"0099o;2070f", "0099f;2070o", "0099f;2070f", "0099e;2070f"}) {
      AgeLetters x = Due.of(people);
      x.knows(0, 1);
      x.letter(0, 1, 30, 0, -1);
      x.done(49, 1, 0, 0);
      x.done(50, 1, 0, 1);
      due.is("nobody tells more, of " + people, x.forged(), 1024);
      int opened = x.opened(0);
      x.forged();
      due.is("nothing is changed: opened(0)", x.opened(0), opened);
    }
    due.promise(26, "an ELDER who tells 5 more is one still");
    AgeLetters x = Due.of("0099o;2070e;0099o");
    x.knows(0, 1);
    x.letter(0, 1, 30, 0, -1);
    x.done(45, 2, 0, 1);
    due.is("1 reads it out in 45", x.forged(), 2);
  }

  // ---- 27 chance

  private static void chances(String what, AgeLetters x, int c, int person, int word, long above, long below) {
    due.is(what + ": chance(" + c + ", " + person + ", " + word + ", 0)", x.chance(c, person, word, 0), above);
    due.is(what + ": chance(" + c + ", " + person + ", " + word + ", 1)", x.chance(c, person, word, 1), below);
  }

  private static void chanceOfSixteenths() {
    due.promise(27, "by c sixteenths (0 to 16)");
    AgeLetters x = Due.of("0060o;0099o");
    x.knows(0, 1);
    x.letter(0, 1, 51, 0, -1);
    long[][] want = {{1, 1}, {15, 16}, {7, 8}, {13, 16}, {3, 4}, {11, 16}, {5, 8}, {9, 16}, {1, 2}, {7, 16}, {3, 8}, {5, 16},
        {1, 4}, {3, 16}, {1, 8}, {1, 16}, {0, 1}};
    for (int c = 0; c <= 16; c++) {
      chances("if 0 lives on", x, c, 1, 0, want[c][0], want[c][1]);
    }
    due.is("chance(-1, 1, 0, 0)", x.chance(-1, 1, 0, 0), LONG_BAD);
    due.is("chance(17, 1, 0, 0)", x.chance(17, 1, 0, 0), LONG_BAD);
    due.promise(27, "each PERSON, by itself");
    AgeLetters y = Due.of("0060o;0060o");
    y.knows(0, 1);
    y.letter(0, 1, 51, 0, -1);
    chances("if both live on", y, 1, 1, 0, 225, 256);
    chances("if both live on", y, 5, 1, 0, 121, 256);
    chances("if both live on", y, 15, 1, 0, 1, 256);
    AgeLetters z = Due.of("0060o;0060o;0060o;0060o");
    z.knows(2, 1);
    z.letter(2, 3, 51, 0, -1);
    chances("if 2 and 3 live on, whatever befalls 0 and 1", z, 4, 3, 0, 9, 16);
    chances("if 2 and 3 live on, whatever befalls 0 and 1", z, 15, 3, 0, 1, 256);
    AgeLetters hearer = Due.of("0099o;0099e;0060o");
    hearer.knows(0, 1);
    hearer.letter(0, 1, 51, 0, -1);
    chances("if 2 lives to hear it", hearer, 4, 2, 0, 3, 4);
    AgeLetters elder = Due.of("0099o;0060e;0099o");
    elder.knows(0, 1);
    elder.letter(0, 1, 51, 0, -1);
    chances("if 1 lives to read it out", elder, 4, 2, 0, 3, 4);
  }

  private static void chanceInLowestTerms() {
    due.promise(27, "FRACTIONS are told in lowest terms (0 by 1)");
    AgeLetters x = Due.of("0060o;0060o");
    x.knows(0, 1);
    for (int c = 0; c <= 16; c++) {
      chances("never", x, c, 1, 0, 0, 1);
      chances("known of itself", x, c, 0, 0, 1, 1);
    }
    x.letter(0, 1, 50, 0, -1);
    for (int c = 0; c <= 16; c++) {
      chances("by a letter, anyhow", x, c, 1, 0, 1, 1);
    }
    x.back();
    x.letter(0, 1, 51, 0, -1);
    chances("all live on", x, 0, 1, 0, 1, 1);
    chances("none lives on", x, 16, 1, 0, 0, 1);
    chances("half and half", x, 8, 1, 0, 1, 4);
    chances("three quarters each", x, 4, 1, 0, 9, 16);
  }

  private static void chanceOfEnds() {
    due.promise(27, "less old at its END by 10 (1 at least)");
    int[][] ends = {{1, 1}, {2, 1}, {9, 1}, {10, 1}, {11, 1}, {12, 2}, {13, 3}, {20, 10}, {21, 11}, {99, 89}};
    for (int[] e : ends) {
      AgeLetters x = Due.of(String.format("00%02do;0099o", e[0]));
      x.knows(0, 1);
      x.letter(0, 1, e[1], 0, -1);
      chances("END " + e[0] + ", written in " + e[1], x, 16, 1, 0, 1, 1);
      x.back();
      x.letter(0, 1, e[1] + 1, 0, -1);
      chances("END " + e[0] + ", written in " + (e[1] + 1), x, 16, 1, 0, 0, 1);
      boolean isShorter = e[1] < e[0];
      chances("as it is", x, 0, 1, 0, isShorter ? 1 : 0, 1);
      due.is("nothing is changed: person(0, 1)", x.person(0, 1), e[0]);
    }
    due.promise(27, "who dies early may hear less, or more");
    AgeLetters y = Due.of("0099o;0099e;0099e;0040o;5040o");
    y.knows(0, 3);
    y.knows(3, 2);
    y.letter(0, 1, 10, 0, 1);
    y.letter(3, 2, 35, 1, -1);
    y.letter(0, 2, 60, 1, -1);
    chances("only if 3 dies early", y, 4, 4, 0, 1, 4);
    chances("only if 3 dies early", y, 16, 4, 0, 1, 1);
    chances("only if 3 dies early", y, 0, 4, 0, 0, 1);
  }

  private static void chanceOfTen() {
    due.promise(27, "exactly, of ten");
    AgeLetters x = Due.of("0060o;0060o;0060o;0060o;0060o;0060o;0060o;0060o;0060o;0060o");
    x.knows(0, 128);
    for (int l = 0; l < 9; l++) {
      x.letter(l, l + 1, 51 + l, 7, -1);
    }
    chances("15 to the 10th by 16 to the 10th", x, 1, 9, 7, 576650390625L, 1099511627776L);
    chances("13 to the 10th by 16 to the 10th", x, 3, 9, 7, 137858491849L, 1099511627776L);
    chances("1 by 16 to the 10th", x, 15, 9, 7, 1, 1099511627776L);
    chances("1 by 2 to the 10th", x, 8, 9, 7, 1, 1024);
    chances("all", x, 0, 9, 7, 1, 1);
    chances("none", x, 16, 9, 7, 0, 1);
  }

  private static void chanceTillTheLastYear() {
    due.promise(27, "KNOWS a WORD behind YEAR 199");
    AgeLetters x = Due.of("0099o;9999o");
    x.knows(0, 1);
    x.letter(0, 1, 99, 0, -1);
    chances("in 198, if both live on", x, 4, 1, 0, 9, 16);
    x.back();
    x.letter(0, 1, 89, 0, -1);
    chances("in 188", x, 4, 1, 0, 1, 1);
  }

  private static void chanceNumbers() {
    due.promise(27, "a PERSON that there is, a WORD (0 to 7), above, below: the least long and 2 more");
    AgeLetters x = Due.of("0060o;0060o");
    int[][] bad = {{4, -1, 0, 0}, {4, 2, 0, 0}, {4, 10, 0, 0}, {4, 1, -1, 0}, {4, 1, 8, 0}, {4, 1, 0, -1}, {4, 1, 0, 2}};
    for (int[] b : bad) {
      due.is("chance" + java.util.Arrays.toString(b), x.chance(b[0], b[1], b[2], b[3]), LONG_BAD);
    }
    for (int huge : new int[] {Integer.MIN_VALUE, Integer.MAX_VALUE}) {
      due.is("chance(" + huge + ", ..)", x.chance(huge, 1, 0, 0), LONG_BAD);
      due.is("chance(.., " + huge + ", 0, 0)", x.chance(4, huge, 0, 0), LONG_BAD);
      due.is("chance(.., " + huge + ", 0)", x.chance(4, 1, huge, 0), LONG_BAD);
      due.is("chance(.., " + huge + ")", x.chance(4, 1, 0, huge), LONG_BAD);
    }
    due.is("chance(4, 1, 7, 1)", x.chance(4, 1, 7, 1), 1);
  }

  // ---- 28 drawn

  /** Letter k is opened unless its writer k dies early; 9, the reader, lives long enough anyhow. */
  private static AgeLetters nineWriters() {
    AgeLetters x = Due.of("0060o;0060o;0060o;0060o;0060o;0060o;0060o;0060o;0060o;0099o");
    for (int k = 0; k < 9; k++) {
      x.knows(k, 1);
      x.letter(k, 9, 51, 0, -1);
    }
    return x;
  }

  private static void drawnLots() {
    due.promise(28, "SEED becomes 1103515245 SEED and 12345, as ints that wrap; its upper 16 bits, modulo 16; less than c");
    int[] seeds = {0, 1, 2, -1, 7, 12345, -12345, 65535, 65536, Integer.MAX_VALUE, Integer.MIN_VALUE, 1103515245};
    for (int seed : seeds) {
      AgeLetters x = nineWriters();
      for (int c = 0; c <= 16; c++) {
        // As a number from 0 on below 2 to the 32nd, so that nothing wraps but by the remainder.
        long state = seed & 0xffffffffL;
        int want = 0;
        for (int k = 0; k < 9; k++) {
          state = (1103515245L * state + 12345L) % 4294967296L;
          want |= state / 65536 % 16 < c ? 0 : 1 << k;
        }
        due.is("drawn(" + seed + ", " + c + ")", x.drawn(seed, c), want);
      }
    }
    due.promise(28, "by a SEED, as told by hand: 0 becomes 12345, whose upper 16 bits are 0");
    due.is("drawn(0, 0)", nineWriters().drawn(0, 0), 511);
    due.is("a LOT of 0 is less than 1: drawn(0, 1)", nineWriters().drawn(0, 1), 510);
    due.is("drawn(0, 16)", nineWriters().drawn(0, 16), 0);
    due.promise(28, "a LOT of 16 for each PERSON that there is");
    AgeLetters y = nineWriters();
    y.wipe();
    due.is("nobody", y.drawn(0, 0), 0);
    Due.typeAll(y, "0060o");
    due.is("no reader", y.drawn(0, 0), 0);
  }

  private static void drawnOfEnds() {
    due.promise(28, "less old at its END by 10 (1 at least), as of CHANCE");
    int[][] ends = {{1, 1}, {2, 1}, {9, 1}, {10, 1}, {11, 1}, {12, 2}, {20, 10}, {99, 89}};
    for (int[] e : ends) {
      AgeLetters x = Due.of(String.format("00%02do;0099o", e[0]));
      x.knows(0, 1);
      x.letter(0, 1, e[1], 0, -1);
      x.letter(0, 1, e[1] + 1, 0, -1);
      due.is("END " + e[0] + ": drawn(5, 16)", x.drawn(5, 16), 1);
      due.is("END " + e[0] + ": drawn(5, 0)", x.drawn(5, 0), e[0] > e[1] ? 3 : 1);
      due.is("nothing is changed: person(0, 1)", x.person(0, 1), e[0]);
    }
    due.promise(28, "LETTERS that are OPENED then, as bits, of 12");
    AgeLetters x = Due.of("0099o;0099o");
    x.knows(0, 1);
    for (int l = 0; l < 12; l++) {
      x.letter(0, 1, 78 + l, 0, -1);
    }
    due.is("up to 89: drawn(5, 16)", x.drawn(5, 16), 4095);
    x.back();
    x.letter(0, 1, 90, 0, -1);
    due.is("one in 90: drawn(5, 16)", x.drawn(5, 16), 2047);
    due.is("one in 90: drawn(5, 0)", x.drawn(5, 0), 4095);
  }

  private static void drawnNumbers() {
    due.promise(28, "c (0 to 16): BAD; any SEED");
    AgeLetters x = nineWriters();
    for (int c : new int[] {-1, 17, Integer.MIN_VALUE, Integer.MAX_VALUE}) {
      due.is("drawn(0, " + c + ")", x.drawn(0, c), BAD);
      due.is("drawn(least, " + c + ")", x.drawn(Integer.MIN_VALUE, c), BAD);
    }
    due.is("nothing is changed: count(4)", x.count(4), 9);
  }
}
