/** Promises 23 to 28: done, forget, said, forged, chance, drawn. */
public final class DoneTest {
  private static final Due due = new Due();
  private static final long LONG_BAD = Long.MIN_VALUE + 2;

  public static void main(String[] args) {
    done();
    said();
    forged();
    chance();
    chanceOfTen();
    chanceAtLeastOne();
    chanceWithElders();
    drawn();
    due.end();
  }

  private static void done() {
    AgeLetters x = new AgeLetters();
    int[][] bad = {
        {-1, 0, 0, 0}, {200, 0, 0, 0}, {0, -1, 0, 0}, {0, 10, 0, 0}, {0, 0, -1, 0}, {0, 0, 8, 0}, {0, 0, 0, -1}, {0, 0, 0, 2}};
    for (int[] b : bad) {
      due.is("done " + java.util.Arrays.toString(b), x.done(b[0], b[1], b[2], b[3]), AgeLetters.BAD);
    }
    due.is("count(5)", x.count(5), 0);
    int[][] good = {{0, 0, 0, 0}, {199, 9, 7, 1}};
    for (int i = 0; i < 8; i++) {
      int[] g = good[i % 2];
      due.is("done " + i, x.done(g[0], g[1], g[2], g[3]), i + 1);
    }
    due.is("the ninth", x.done(0, 0, 0, 0), AgeLetters.FULL);
    for (int[] b : bad) {
      due.is("BAD ahead of FULL", x.done(b[0], b[1], b[2], b[3]), AgeLetters.BAD);
    }
    due.is("count(5)", x.count(5), 8);
    due.is("forget()", x.forget(), 8);
    due.is("forget() again", x.forget(), 0);
    due.is("count(5)", x.count(5), 0);
    due.is("done", x.done(0, 0, 0, 0), 1);
  }

  private static void said() {
    AgeLetters x = Due.of("0099o;0099o;0099o");
    x.knows(0, 15);
    x.letter(0, 1, 10, 0, -1);
    x.letter(1, 2, 20, 2, -1);
    due.is("nothing was done", x.said(0), 255);
    x.done(10, 1, 0, 0);
    due.is("all but its own", x.said(0), 254);
    due.is("the other changes nothing", x.said(1), 0);
    x.forget();
    x.done(10, 1, 3, 1);
    due.is("one that it is not", x.said(0), 8);
    x.done(9, 1, 3, 0);
    due.is("not the year ahead", x.said(0), 8);
    x.done(9, 1, 3, 1);
    due.is("what cannot be", x.said(0), 0);
    x.forget();
    x.done(30, 2, 2, 1);
    due.is("so that the next is written", x.said(0), 4);
    due.is("the next itself", x.said(1), 0);
    x.forget();
    x.done(30, 2, 0, 1);
    due.is("what the next may say", x.said(1), 1);
    x.done(199, 9, 0, 0);
    due.is("who is not there never does", x.said(1), 1);
    x.knows(9, 1);
    due.is("whatever it is told to know", x.said(1), 1);
    x.done(199, 9, 0, 1);
    due.is("so it cannot have done", x.said(1), 0);
    due.is("the letter is as it was", x.known(10, 1), 1);
    due.is("said(-1)", x.said(-1), AgeLetters.BAD);
    due.is("said(2)", x.said(2), AgeLetters.BAD);
    x.forget();
    x.done(199, 0, 0, 1);
    x.done(199, 1, 7, 0);
    due.is("all that was done, not some of it", x.said(0), 255);
    x.done(5, 0, 1, 0);
    due.is("known of itself from the first on", x.said(0), 0);
  }

  private static void forged() {
    String[] peoples = {"0099o;1080o", "0099o;1080f", "0099f;1080o", "0099f;1080f"};
    for (String people : peoples) {
      AgeLetters x = Due.of(people);
      x.knows(0, 1);
      x.letter(0, 1, 20, 0, -1);
      due.is("nothing was done", x.forged(), Due.bits(0, 1, 10));
      x.done(29, 1, 0, 0);
      due.is("not the reader", x.forged(), Due.bits(0, 10));
      x.done(34, 1, 0, 0);
      due.is("the writer", x.forged(), Due.bits(0));
      x.done(35, 1, 0, 0);
      due.is("none of them", x.forged(), 0);
      x.forget();
      x.done(25, 1, 0, 1);
      due.is("the reader", x.forged(), Due.bits(1));
      x.forget();
      x.done(30, 1, 0, 1);
      due.is("not the writer", x.forged(), Due.bits(1, 10));
      x.forget();
      x.done(29, 1, 0, 0);
      x.done(30, 1, 0, 1);
      due.is("nobody is", x.forged(), Due.bits(10));
    }
    AgeLetters x = Due.of("0099o;1080e;1080o");
    x.knows(0, 1);
    x.letter(0, 1, 20, 0, -1);
    x.done(25, 2, 0, 1);
    due.is("an elder who tells more reads out", x.forged(), Due.bits(1));
    due.is("it is as it was", x.opened(0), 30);
    AgeLetters y = new AgeLetters();
    y.done(0, 0, 0, 0);
    due.is("where there is nobody, nobody is", y.forged(), 1024);
    y.done(0, 0, 0, 1);
    due.is("nor that", y.forged(), 0);
  }

  private static void chances(String what, AgeLetters x, int c, int person, int word, long above, long below) {
    due.is(what + ": chance " + c + ", above", x.chance(c, person, word, 0), above);
    due.is(what + ": chance " + c + ", below", x.chance(c, person, word, 1), below);
  }

  private static void chance() {
    AgeLetters x = Due.of("0060o;0060o;0050o");
    x.knows(0, 1);
    x.letter(0, 1, 55, 0, -1);
    chances("both live on", x, 0, 1, 0, 1, 1);
    chances("both live on", x, 4, 1, 0, 9, 16);
    chances("both live on", x, 8, 1, 0, 1, 4);
    chances("both live on", x, 5, 1, 0, 121, 256);
    chances("both live on", x, 16, 1, 0, 0, 1);
    chances("known of itself", x, 5, 0, 0, 1, 1);
    chances("never", x, 5, 2, 0, 0, 1);
    x.letter(0, 1, 50, 0, -1);
    chances("till 50 they live anyhow", x, 16, 1, 0, 1, 1);
    x.back();
    x.letter(0, 1, 51, 0, -1);
    chances("by either, but both live on", x, 4, 1, 0, 9, 16);
    x.back();
    x.letter(0, 2, 45, 0, -1);
    x.letter(2, 1, 46, 0, -1);
    chances("2 lives on, or else both: 3/4 and 9/64", x, 4, 1, 0, 57, 64);
    due.is("count(4)", x.count(4), 3);
    due.is("person(0, 1)", x.person(0, 1), 60);
    int[][] bad = {{-1, 0, 0, 0}, {17, 0, 0, 0}, {0, -1, 0, 0}, {0, 3, 0, 0}, {0, 0, -1, 0}, {0, 0, 8, 0}, {0, 0, 0, -1}, {0, 0, 0, 2}};
    for (int[] b : bad) {
      due.is("chance " + java.util.Arrays.toString(b), x.chance(b[0], b[1], b[2], b[3]), LONG_BAD);
    }
    due.is("of nobody", new AgeLetters().chance(4, 0, 0, 0), LONG_BAD);
  }

  /** From hand to hand through ten, all of whom must live on. */
  private static void chanceOfTen() {
    AgeLetters x = Due.of("0060o;0060o;0060o;0060o;0060o;0060o;0060o;0060o;0060o;0060o");
    x.knows(0, 1);
    for (int l = 0; l < 9; l++) {
      x.letter(l, l + 1, 51 + l, 0, -1);
    }
    chances("ten", x, 1, 9, 0, 576650390625L, 1099511627776L);
    chances("ten", x, 8, 9, 0, 1, 1024);
    chances("ten", x, 15, 9, 0, 1, 1099511627776L);
    chances("ten", x, 16, 9, 0, 0, 1);
    chances("nine", x, 1, 8, 0, 38443359375L, 68719476736L);
    chances("two", x, 1, 1, 0, 225, 256);
  }

  private static void chanceAtLeastOne() {
    AgeLetters x = Due.of("0005o;0011o;0012o;0001o");
    x.knows(0, 1);
    x.knows(1, 2);
    x.knows(2, 4);
    x.letter(0, 3, 1, 0, -1);
    x.letter(1, 3, 1, 1, -1);
    x.letter(0, 2, 2, 0, -1);
    x.letter(1, 2, 2, 1, -1);
    x.letter(2, 0, 2, 2, -1);
    chances("1 at least", x, 16, 3, 0, 1, 1);
    chances("11 less 10", x, 16, 3, 1, 1, 1);
    chances("no more than 1", x, 16, 2, 0, 0, 1);
    chances("11 less 10 is no more than 1", x, 16, 2, 1, 0, 1);
    chances("12 less 10 is 2", x, 16, 0, 2, 0, 1);
    chances("of the writer 0 alone", x, 4, 2, 0, 3, 4);
    chances("of the reader 0 alone", x, 4, 0, 2, 3, 4);
  }

  /** Elder 1 reads out to those who live; whether 2 lives till 55 is all that counts for it. */
  private static void chanceWithElders() {
    AgeLetters x = Due.of("0099o;0070e;0060o;0060o");
    x.knows(0, 1);
    x.letter(0, 1, 55, 0, -1);
    chances("it hears it", x, 4, 2, 0, 3, 4);
    x.letter(2, 3, 56, 0, -1);
    chances("it, too", x, 4, 3, 0, 3, 4);
    chances("the elder never", x, 4, 1, 0, 0, 1);
    AgeLetters z = Due.of("0099o;0060e;0099o");
    z.knows(0, 1);
    z.letter(0, 1, 55, 0, -1);
    chances("if the elder lives on", z, 4, 2, 0, 3, 4);
    // A longer life of 3 makes 1 read it out ahead of the birth of 4.
    AgeLetters y = Due.of("0099o;0099e;0099e;0040o;5040o");
    y.knows(0, 1);
    y.knows(3, 2);
    y.letter(0, 1, 10, 0, 1);
    y.letter(3, 2, 35, 1, -1);
    y.letter(0, 2, 60, 1, -1);
    due.is("opened(0)", y.opened(0), 36);
    chances("never", y, 4, 4, 0, 0, 1);
    y.knows(0, 3);
    chances("if 3 dies early", y, 4, 4, 0, 1, 4);
    due.is("learned(4, 0)", y.learned(4, 0), AgeLetters.NONE);
  }

  /** Letter k is opened if its writer k lives on; its reader 9 does so long enough. */
  private static void drawn() {
    AgeLetters x = Due.of("0060o;0060o;0060o;0060o;0060o;0060o;0060o;0060o;0060o;0099o");
    for (int k = 0; k < 9; k++) {
      x.knows(k, 1);
      x.letter(k, 9, 55, 0, -1);
    }
    int[] seeds = {0, 1, 7, -1, 123456};
    int[][] lots = {
        {0, 12, 4, 5, 10, 15, 13, 13, 10}, {6, 14, 1, 11, 11, 11, 2, 11, 4}, {12, 14, 4, 2, 3, 5, 2, 14, 1},
        {9, 9, 6, 14, 9, 2, 8, 15, 0}, {13, 12, 0, 2, 15, 7, 1, 1, 4}};
    for (int i = 0; i < seeds.length; i++) {
      for (int c = 0; c <= 16; c++) {
        int want = 0;
        for (int k = 0; k < 9; k++) {
          want |= lots[i][k] < c ? 0 : 1 << k;
        }
        due.is("drawn(" + seeds[i] + ", " + c + ")", x.drawn(seeds[i], c), want);
      }
    }
    due.is("drawn(0, -1)", x.drawn(0, -1), AgeLetters.BAD);
    due.is("drawn(0, 17)", x.drawn(0, 17), AgeLetters.BAD);
    due.is("count(4)", x.count(4), 9);
    due.is("1 at least", Due.of("0001o").drawn(3, 16), 0);
    AgeLetters y = Due.of("0005o;0005o");
    y.knows(0, 1);
    y.letter(0, 1, 1, 0, -1);
    y.letter(0, 1, 2, 0, -1);
    due.is("1 at least", y.drawn(3, 16), 1);
    due.is("as they are", y.drawn(3, 0), 3);
  }
}
