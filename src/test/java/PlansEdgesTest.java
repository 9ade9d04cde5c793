/** The boundary cases of promises 20 to 22: send, trust, teach. */
public final class PlansEdgesTest {
  private static final Due due = new Due();
  private static final int NONE = AgeLetters.NONE;
  private static final int BAD = AgeLetters.BAD;
  private static final String TEN = "0099o;0099o;0099o;0099o;0099o;0099o;0099o;0099o;0099o;0099o";

  public static void main(String[] args) {
    sendEarlierThanWithout();
    sendOfWhoKnows();
    sendByWhoLearned();
    sendWithinLives();
    sendOfLikeOnes();
    sendAsTheLastOne();
    sendBesideAll();
    sendLate();
    sendNumbers();
    trustNobody();
    trustUpToThree();
    trustNotTheOneTold();
    trustWhoIsThere();
    trustOfLikeOnes();
    trustTillTheLastYear();
    trustNumbers();
    teachNothing();
    teachByAges();
    teachByTrueAges();
    teachAllWords();
    teachByTwelve();
    teachOfLikeOnes();
    teachWithTheOthersAway();
    teachNumbers();
    due.endOf(20, 21, 22);
  }

  // ---- 20 send

  private static void sends(String what, AgeLetters x, int word, int person, int learned, int writer, int year) {
    int[] want = {learned, writer, year};
    for (int i = 0; i < 3; i++) {
      due.is(what + ": send(" + word + ", " + person + ", " + i + ")", x.send(word, person, i), want[i]);
    }
  }

  private static void sendsNone(String what, AgeLetters x, int word, int person) {
    sends(what, x, word, person, NONE, NONE, NONE);
  }

  /** 0 knows word 0 of itself. */
  private static AgeLetters teller(String people) {
    AgeLetters x = Due.of(people);
    x.knows(0, 1);
    return x;
  }

  private static void sendEarlierThanWithout() {
    due.promise(20, "LEARNED in an earlier YEAR than without; NONE");
    AgeLetters x = teller("0099o;2050o");
    sends("without any it has not learned it", x, 0, 1, 20, 0, 0);
    x.letter(0, 1, 1, 0, -1);
    sends("a year later without", x, 0, 1, 20, 0, 0);
    x.letter(0, 1, 0, 0, -1);
    sendsNone("in that year without", x, 0, 1);
    AgeLetters y = teller("0099o;0099o");
    y.letter(0, 1, 1, 0, -1);
    sends("learned in year 1", y, 0, 1, 0, 0, 0);
    y.letter(0, 1, 0, 0, -1);
    sendsNone("learned in year 0", y, 0, 1);
    due.promise(20, "one LETTER more, which is not written by asking");
    due.is("count(2)", y.count(2), 2);
    due.is("known(199, 1)", y.known(199, 1), 1);
  }

  private static void sendOfWhoKnows() {
    due.promise(20, "NONE: known of itself, or by nobody");
    AgeLetters x = teller("0099o;2050o");
    sendsNone("known of itself", x, 0, 0);
    sendsNone("known by nobody", x, 1, 1);
    x.knows(1, 1);
    sendsNone("known of itself by both", x, 0, 1);
    due.promise(20, "the writer KNOWS the WORD (behind the YEAR ahead)");
    // 2 hears it in 5, when it is born; 0 tells 5 at least.
    AgeLetters y = teller("0010f;0099e;0599o;3050o");
    y.letter(0, 1, 0, 0, -1);
    due.is("learned(2, 0)", y.learned(2, 0), 5);
    sends("a year behind that in which it learned it", y, 0, 3, 31, 2, 6);
    due.promise(20, "the writer (not the reader)");
    sendsNone("alone", teller("0099o"), 0, 0);
    sendsNone("alone, of another word", teller("0099o"), 1, 0);
  }

  /** 2 learns the word in 5, its first year; all others are learned in 90 by all who live then. */
  private static void sendByWhoLearned() {
    due.promise(20, "the writer KNOWS the WORD (behind the YEAR ahead), whatever else is learned later");
    for (int word = 0; word < 8; word++) {
      AgeLetters x = Due.of("0010f;0099e;0599o;3099o;0099o;0099e");
      x.knows(0, 1 << word);
      x.knows(4, 255 & ~(1 << word));
      x.letter(0, 1, 0, word, -1);
      for (int other = 0; other < 8; other++) {
        if (other != word) {
          x.letter(4, 5, 90, other, -1);
        }
      }
      due.is("known(89, 2)", x.known(89, 2), 1 << word);
      due.is("known(90, 2)", x.known(90, 2), 255);
      sends("by 2, of age 1", x, word, 3, 31, 2, 6);
    }
  }

  private static void sendWithinLives() {
    due.promise(20, "OPENED while its reader LIVES");
    sends("AGE 5 is told at birth, and the END is 5", teller("0099f;2005o"), 0, 1, 25, 0, 0);
    sendsNone("AGE 5 is told at birth, and the END is 4", teller("0099f;2004o"), 0, 1);
    sends("the writer is born in the reader's last year", teller("5050o;0050o"), 0, 1, 50, 0, 50);
    sendsNone("the writer is born a year behind it", teller("5150o;0050o"), 0, 1);
    sends("the writer's last year is long past", teller("0001o;9901o"), 0, 1, 99, 0, 0);
    sends("both born in 99", teller("9901o;9901o"), 0, 1, 99, 0, 99);
  }

  private static void sendOfLikeOnes() {
    due.promise(20, "the earliest, of like ones by the least writer");
    AgeLetters x = Due.of(TEN);
    x.knows(9, 128);
    sends("9 alone", x, 7, 0, 0, 9, 0);
    x.knows(8, 128);
    sends("8 and 9", x, 7, 0, 0, 8, 0);
    x.knows(0, 128);
    sends("0, 8 and 9", x, 7, 1, 0, 0, 0);
    sends("to the last", x, 7, 7, 0, 0, 0);
    AgeLetters y = teller("2050o;0050o;3050o;1950o");
    y.knows(3, 1);
    sends("the earlier goes ahead of the least writer", y, 0, 1, 19, 3, 19);
    sends("of like ones the least writer, though it writes later", y, 0, 2, 30, 0, 20);
    due.promise(20, "then in the first YEAR");
    sends("AGES 0 to 5 are told at birth", teller("0099o;2050f"), 0, 1, 20, 0, 0);
    sends("AGES 0 to 5 of one born in 3", teller("0399o;2050f"), 0, 1, 20, 0, 3);
    sends("AGE 5 is told by both at birth", teller("0399f;2050f"), 0, 1, 20, 0, 3);
  }

  private static void sendAsTheLastOne() {
    due.promise(20, "one LETTER more (the last one)");
    // Elder 2 hears the word of elder 1 in year 0, but the letter that needs it came ahead.
    AgeLetters x = teller("0099o;0099e;0099e");
    x.letter(0, 2, 0, 0, 0);
    sends("1 reads it out, then 2 a year later", x, 0, 1, 1, 0, 0);
    due.promise(20, "none NEEDED");
    sends("a word that nobody could need", teller("0099o;0099o"), 0, 1, 0, 0, 0);
    due.promise(20, "of an ELDER, who forgets it");
    sendsNone("to an elder", teller("0099o;0099e"), 0, 1);
  }

  private static void sendBesideAll() {
    due.promise(20, "one LETTER more, beside 11 and 12");
    AgeLetters x = teller("0099o;2050o");
    for (int l = 0; l < 11; l++) {
      x.letter(0, 1, 12 - l, 0, -1);
    }
    sends("beside 11", x, 0, 1, 20, 0, 0);
    x.letter(0, 1, 1, 0, -1);
    sends("beside 12", x, 0, 1, 20, 0, 0);
    x.back();
    x.letter(0, 1, 0, 0, -1);
    sendsNone("12, one being as early", x, 0, 1);
    due.is("count(2)", x.count(2), 12);
  }

  /** 1 reads it out in 99, 2 writes it in 100, 99 years old, and 3 reads that out in 198. */
  private static void sendLate() {
    due.promise(20, "the YEAR LEARNED, up to the last");
    AgeLetters x = teller("0099o;9999e;0199o;9999e");
    x.letter(2, 3, 100, 0, -1);
    sends("in 198", x, 0, 1, 198, 0, 0);
    AgeLetters y = teller("0099o;9999e;0199o;9998e");
    y.letter(2, 3, 100, 0, -1);
    sendsNone("3 is dead a year too soon", y, 0, 1);
  }

  private static void sendNumbers() {
    due.promise(20, "a told WORD (0 to 7), a told PERSON that there is, what = 0, 1, 2: BAD");
    AgeLetters x = teller("0099o;2050o");
    int[][] bad = {{-1, 1, 0}, {8, 1, 0}, {0, -1, 0}, {0, 2, 0}, {0, 10, 0}, {0, 1, -1}, {0, 1, 3}};
    for (int[] b : bad) {
      due.is("send" + java.util.Arrays.toString(b), x.send(b[0], b[1], b[2]), BAD);
    }
    for (int huge : new int[] {Integer.MIN_VALUE, Integer.MAX_VALUE}) {
      due.is("send(" + huge + ", 1, 0)", x.send(huge, 1, 0), BAD);
      due.is("send(0, " + huge + ", 0)", x.send(0, huge, 0), BAD);
      due.is("send(0, 1, " + huge + ")", x.send(0, 1, huge), BAD);
    }
  }

  // ---- 21 trust

  private static void trustNobody() {
    due.promise(21, "the fewest PERSONS (0 to 3): 0");
    AgeLetters x = teller("0099o;0099o;0099o");
    due.is("known of itself", x.trust(0, 0), 0);
    x.letter(0, 1, 30, 0, -1);
    due.is("known by a letter", x.trust(0, 1), 0);
    due.promise(21, "NONE");
    due.is("no letter to it", x.trust(0, 2), NONE);
    due.is("no letter of that word", x.trust(1, 1), NONE);
  }

  /** 1 .. hands must know word 0, so that word 1 goes on by them; then 1 opens word 0 for person 0. */
  private static AgeLetters hands(int many) {
    AgeLetters x = Due.of(TEN);
    x.knows(9, 2);
    int from = 9;
    for (int hand = many; hand >= 2; hand--) {
      x.letter(from, hand, 60 - 10 * hand, 1, 0);
      from = hand;
    }
    x.letter(from, 0, 70, 1, -1);
    x.letter(1, 0, 80, 0, 1);
    return x;
  }

  private static void trustUpToThree() {
    due.promise(21, "the fewest PERSONS (0 to 3)");
    due.is("one", hands(1).trust(0, 0), Due.bits(1));
    due.is("two", hands(2).trust(0, 0), Due.bits(1, 2));
    due.is("three", hands(3).trust(0, 0), Due.bits(1, 2, 3));
    due.is("four", hands(4).trust(0, 0), NONE);
    due.is("five", hands(5).trust(0, 0), NONE);
    due.promise(21, "did they KNOW a told WORD of themselves, too");
    AgeLetters x = hands(4);
    x.knows(4, 1);
    due.is("four, one of whom knows it", x.trust(0, 0), Due.bits(1, 2, 3));
    x.knows(9, 0);
    due.is("four, of whom one knows it, the other word being unknown", x.trust(0, 0), NONE);
    AgeLetters y = hands(3);
    due.is("trust(0, 0)", y.trust(0, 0), Due.bits(1, 2, 3));
    due.is("nothing is told: known(199, 1)", y.known(199, 1), 0);
    due.is("count(7)", y.count(7), 1);
  }

  private static void trustNotTheOneTold() {
    due.promise(21, "not the one told");
    AgeLetters x = Due.of("0099o;0099o");
    due.is("it alone could", x.trust(0, 0), NONE);
    due.is("nor the last one", x.trust(0, 1), NONE);
    // 0 would have to know it first, to hear of it again.
    x.letter(0, 1, 30, 0, -1);
    x.letter(1, 0, 40, 0, -1);
    due.is("of 1, not of itself", x.trust(0, 0), Due.bits(1));
    due.is("of 0, not of itself", x.trust(0, 1), Due.bits(0));
  }

  private static void trustWhoIsThere() {
    due.promise(21, "PERSONS that there are");
    AgeLetters x = Due.of("0099o;0099o");
    x.letter(2, 0, 30, 0, -1);
    x.letter(9, 0, 30, 0, -1);
    due.is("2 and 9 are not", x.trust(0, 0), NONE);
    Due.typeAll(x, ";0099o");
    due.is("2 is", x.trust(0, 0), Due.bits(2));
    AgeLetters y = Due.of(TEN);
    y.letter(9, 0, 30, 0, -1);
    due.is("the tenth", y.trust(0, 0), Due.bits(9));
    y.letter(0, 9, 30, 7, -1);
    due.is("the first, for the tenth, of word 7", y.trust(7, 9), Due.bits(0));
  }

  private static void trustOfLikeOnes() {
    due.promise(21, "of like ones the least bits");
    AgeLetters one = Due.of(TEN);
    one.letter(9, 0, 30, 0, -1);
    one.letter(5, 0, 31, 0, -1);
    one.letter(7, 0, 32, 0, -1);
    due.is("one of three", one.trust(0, 0), Due.bits(5));
    // Word 1 goes through 2 and lets 1 tell; word 2 goes through 3 and lets 0 tell.
    AgeLetters two = Due.of("0099o;0099o;0099o;0099o;0099o;0099o");
    two.knows(5, 6);
    two.letter(5, 2, 10, 1, 0);
    two.letter(2, 4, 20, 1, -1);
    two.letter(1, 4, 30, 0, 1);
    two.letter(5, 3, 10, 2, 0);
    two.letter(3, 4, 20, 2, -1);
    two.letter(0, 4, 30, 0, 2);
    due.is("1 and 2 (6), not 0 and 3 (9)", two.trust(0, 4), Due.bits(1, 2));
    due.promise(21, "the fewest go ahead of the least bits");
    two.letter(5, 4, 40, 0, -1);
    due.is("5 alone (32)", two.trust(0, 4), Due.bits(5));
  }

  private static void trustTillTheLastYear() {
    due.promise(21, "KNOW it behind YEAR 199");
    AgeLetters x = Due.of("0099o;9999o;9998o");
    x.letter(0, 1, 99, 0, -1);
    x.letter(0, 2, 99, 0, -1);
    due.is("learned in 198", x.trust(0, 1), Due.bits(0));
    due.is("dead a year too soon", x.trust(0, 2), NONE);
  }

  private static void trustNumbers() {
    due.promise(21, "a told WORD (0 to 7), a told PERSON that there is: BAD");
    AgeLetters x = teller("0099o;2050o");
    int[][] bad = {{-1, 0}, {8, 0}, {0, -1}, {0, 2}, {0, 9}, {0, 10}, {Integer.MIN_VALUE, 0}, {Integer.MAX_VALUE, 0},
        {0, Integer.MIN_VALUE}, {0, Integer.MAX_VALUE}};
    for (int[] b : bad) {
      due.is("trust(" + b[0] + ", " + b[1] + ")", x.trust(b[0], b[1]), BAD);
    }
    due.is("trust(7, 1)", x.trust(7, 1), NONE);
  }

  // ---- 22 teach

  private static void teachNothing() {
    due.promise(22, "the fewest LETTERS: none");
    AgeLetters x = Due.of("0099o;2050o");
    due.is("no words, no letters", x.teach(1, 0, 0), 0);
    due.is("no words, at 99", x.teach(1, 0, 99), 0);
    x.knows(1, 255);
    due.is("all known of itself", x.teach(1, 255, 0), 0);
    x.knows(1, 254);
    due.promise(22, "told WORDS (bits; all); NONE");
    due.is("all but one", x.teach(1, 255, 99), NONE);
    due.is("those", x.teach(1, 254, 0), 0);
  }

  private static void teachByAges() {
    due.promise(22, "behind the YEAR in which it is of a told AGE (0 to 99)");
    AgeLetters x = teller("0099o;2050o;9999o;2005o");
    x.letter(0, 1, 30, 0, -1);
    due.is("a year ahead", x.teach(1, 1, 29), NONE);
    due.is("in that year", x.teach(1, 1, 30), 1);
    due.is("at 99", x.teach(1, 1, 99), 1);
    x.letter(0, 1, 0, 0, -1);
    due.is("at birth", x.teach(1, 1, 0), 2);
    x.letter(0, 2, 99, 0, -1);
    due.is("at 98", x.teach(2, 1, 98), NONE);
    due.is("at 99, in 198", x.teach(2, 1, 99), 4);
    due.promise(22, "whether it LIVES then or not");
    x.letter(0, 3, 5, 0, -1);
    due.is("in its last year", x.teach(3, 1, 5), 8);
    due.is("a year ahead of its last", x.teach(3, 1, 4), NONE);
    due.is("a year behind its last", x.teach(3, 1, 6), 8);
    due.is("long dead, in 119", x.teach(3, 1, 99), 8);
    x.letter(0, 3, 6, 1, -1);
    due.is("what would have been opened behind its end", x.teach(3, 2, 99), NONE);
  }

  private static void teachByTrueAges() {
    due.promise(22, "of a told AGE (its true one)");
    AgeLetters x = teller("0099o;2050f");
    x.letter(0, 1, 30, 0, -1);
    due.is("25, telling 30", x.teach(1, 1, 25), 1);
    due.is("24, telling 29", x.teach(1, 1, 24), NONE);
    x.letter(0, 1, 5, 0, -1);
    due.is("0, telling 5", x.teach(1, 1, 0), 2);
  }

  private static void teachAllWords() {
    due.promise(22, "told WORDS (bits; all)");
    AgeLetters x = Due.of("0099o;2050o");
    x.knows(0, 255);
    for (int word = 0; word < 8; word++) {
      x.letter(0, 1, 10 + word, word, -1);
    }
    due.is("all, at 17", x.teach(1, 255, 17), 255);
    due.is("all, at 16", x.teach(1, 255, 16), NONE);
    due.is("all but the last, at 16", x.teach(1, 127, 16), 127);
    due.is("the last", x.teach(1, 128, 17), 128);
    due.is("the first", x.teach(1, 1, 10), 1);
    due.is("the first and the last", x.teach(1, 129, 17), 129);
  }

  private static void teachByTwelve() {
    due.promise(22, "the fewest LETTERS, of 12: all of them");
    AgeLetters x = Due.of("0099o;0099o;0099o;0099o;0099o;0099o");
    x.knows(0, 255);
    for (int word = 0; word < 8; word++) {
      x.letter(0, 1, 10 + word, word, word - 1);
    }
    for (int hand = 1; hand < 5; hand++) {
      x.letter(hand, hand + 1, 30 + hand, 7, -1);
    }
    due.is("count(2)", x.count(2), 12);
    due.is("word 7 for 5, at 34", x.teach(5, 128, 34), 4095);
    due.is("word 7 for 5, at 33", x.teach(5, 128, 33), NONE);
    due.is("word 7 for 4", x.teach(4, 128, 99), 2047);
    due.promise(22, "the last of 12 alone");
    AgeLetters y = Due.of("0099o;0099o");
    y.knows(0, 255);
    for (int l = 0; l < 11; l++) {
      y.letter(0, 1, 30, l % 7, -1);
    }
    y.letter(0, 1, 30, 7, -1);
    due.is("word 7", y.teach(1, 128, 30), 2048);
    due.is("word 0, of letters 0 and 7", y.teach(1, 1, 30), 1);
  }

  private static void teachOfLikeOnes() {
    due.promise(22, "of like ones the least bits");
    AgeLetters x = teller("0099o;0099o;0099o;0099o");
    x.letter(2, 1, 20, 0, -1);
    x.letter(0, 3, 10, 0, -1);
    x.letter(3, 1, 20, 0, -1);
    x.letter(0, 2, 10, 0, -1);
    due.is("1 and 2 (6), not 0 and 3 (9)", x.teach(1, 1, 50), Due.bits(1, 2));
    due.promise(22, "the fewest go ahead of the least bits");
    x.letter(0, 1, 40, 0, -1);
    due.is("4 alone (16)", x.teach(1, 1, 50), Due.bits(4));
    due.is("4 is too late at 39", x.teach(1, 1, 39), Due.bits(1, 2));
  }

  private static void teachWithTheOthersAway() {
    due.promise(22, "all others being away");
    // Letter 1 makes 1 read it out ahead of the birth of 0.
    AgeLetters x = Due.of("5040o;0099e;0099o;0099e");
    x.knows(2, 3);
    x.letter(2, 1, 10, 0, 1);
    x.letter(2, 3, 20, 1, -1);
    x.letter(2, 3, 60, 1, -1);
    due.is("learned(0, 0) with all", x.learned(0, 0), NONE);
    due.is("teach(0, 1, 11)", x.teach(0, 1, 11), Due.bits(0, 2));
    due.is("teach(0, 1, 10)", x.teach(0, 1, 10), NONE);
    due.is("count(2)", x.count(2), 3);
    due.is("opened(1)", x.opened(1), 20);
  }

  private static void teachNumbers() {
    due.promise(22, "BAD (words 0 to 255); a PERSON that there is, a told AGE (0 to 99)");
    AgeLetters x = teller("0099o;2050o");
    int[][] bad = {{-1, 0, 0}, {2, 0, 0}, {10, 0, 0}, {0, -1, 0}, {0, 256, 0}, {0, 0, -1}, {0, 0, 100}};
    for (int[] b : bad) {
      due.is("teach" + java.util.Arrays.toString(b), x.teach(b[0], b[1], b[2]), BAD);
    }
    for (int huge : new int[] {Integer.MIN_VALUE, Integer.MAX_VALUE}) {
      due.is("teach(" + huge + ", 0, 0)", x.teach(huge, 0, 0), BAD);
      due.is("teach(0, " + huge + ", 0)", x.teach(0, huge, 0), BAD);
      due.is("teach(0, 0, " + huge + ")", x.teach(0, 0, huge), BAD);
    }
    due.is("teach(1, 255, 99)", x.teach(1, 255, 99), NONE);
    due.is("teach(0, 1, 0)", x.teach(0, 1, 0), 0);
  }
}
