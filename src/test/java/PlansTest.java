/** Promises 20 to 22: send, trust, teach. */
public final class PlansTest {
  private static final Due due = new Due();

  public static void main(String[] args) {
    send();
    sendByWhoLearned();
    sendToAnElder();
    sendBesideTwelve();
    trust();
    trustOfMany();
    teach();
    teachWithoutAll();
    due.end();
  }

  private static void sends(String what, AgeLetters x, int word, int person, int... want) {
    for (int i = 0; i < 3; i++) {
      due.is(what + ": send(" + word + ", " + person + ", " + i + ")", x.send(word, person, i), want[i]);
    }
  }

  private static void send() {
    AgeLetters x = Due.of("0090o;0090o;3050o;2060f;1080f");
    sends("nobody knows it", x, 0, 2, -1, -1, -1);
    x.knows(1, 1);
    sends("at birth, by a letter of age 0", x, 0, 2, 30, 1, 0);
    x.knows(0, 1);
    sends("the least writer", x, 0, 2, 30, 0, 0);
    sends("known of itself", x, 0, 1, -1, -1, -1);
    sends("told more at birth", x, 0, 3, 20, 0, 0);
    x.letter(0, 2, 20, 0, -1);
    due.is("learned(2, 0)", x.learned(2, 0), 50);
    sends("earlier than without", x, 0, 2, 30, 0, 0);
    x.letter(0, 2, 0, 0, -1);
    sends("no earlier than without", x, 0, 2, -1, -1, -1);
    x.knows(4, 2);
    sends("a forged writer's age", x, 1, 2, 35, 4, 10);
    sends("to a forged reader", x, 1, 3, 20, 4, 10);
    sends("by whom it is born later", x, 1, 0, 10, 4, 10);
    due.is("nothing is sent", x.count(2), 2);
    due.is("known(199, 0)", x.known(199, 0), 1);
    AgeLetters y = Due.of("0040o;2060o;3060o");
    y.knows(0, 1);
    y.letter(0, 1, 25, 0, -1);
    y.wipe();
    Due.typeAll(y, "4040o;2060o;3060o");
    sends("its first year, if the reader is older", y, 0, 2, 40, 0, 40);
    y.knows(0, 0);
    y.knows(1, 1);
    y.letter(1, 0, 30, 0, -1);
    due.is("learned(0, 0)", y.learned(0, 0), 50);
    y.knows(1, 1);
    sends("the reader itself does not write", y, 0, 0, 40, 1, 20);
    sends("by one who knows it", y, 0, 2, 30, 1, 20);
    wrongSends(x);
  }

  /** 2 hears it when it is born, in 5, and may write it from 6 on, a year old; 0 tells 5 at least. */
  private static void sendByWhoLearned() {
    AgeLetters x = Due.of("0010f;0099e;0599o;3050o");
    x.knows(0, 1);
    sends("by 0 itself", x, 0, 3, 35, 0, 0);
    x.letter(0, 1, 0, 0, -1);
    due.is("learned(2, 0)", x.learned(2, 0), 5);
    sends("by one who learned it", x, 0, 3, 31, 2, 6);
  }

  private static void wrongSends(AgeLetters x) {
    int[][] bad = {{-1, 0, 0}, {8, 0, 0}, {0, -1, 0}, {0, 5, 0}, {0, 0, -1}, {0, 0, 3}};
    for (int[] b : bad) {
      due.is("send " + java.util.Arrays.toString(b), x.send(b[0], b[1], b[2]), AgeLetters.BAD);
    }
  }

  /** An elder forgets what it reads out, but may hear it of another elder whom it set off. */
  private static void sendToAnElder() {
    AgeLetters x = Due.of("0090e;0090o;0090o;0090e");
    x.knows(1, 1);
    sends("it forgets", x, 0, 0, -1, -1, -1);
    x.letter(2, 3, 50, 0, -1);
    sends("it hears of another", x, 0, 0, 50, 1, 0);
    due.is("trust(0, 0)", x.trust(0, 0), 4);
    x.letter(1, 2, 20, 0, -1);
    sends("so it does without", x, 0, 0, -1, -1, -1);
    due.is("learned(0, 0)", x.learned(0, 0), 50);
  }

  private static void sendBesideTwelve() {
    AgeLetters x = Due.of("0090o;3050o");
    x.knows(0, 255);
    for (int l = 0; l < 12; l++) {
      x.letter(0, 1, 40 + l, 1, -1);
    }
    sends("one more than twelve", x, 0, 1, 30, 0, 0);
    sends("earlier than by twelve", x, 1, 1, 30, 0, 0);
    due.is("still twelve", x.count(2), 12);
    due.is("opened(11)", x.opened(11), AgeLetters.NONE);
    due.is("opened(10)", x.opened(10), 80);
  }

  private static void trust() {
    AgeLetters x = Due.of("0099o;0099o;0099o;0099o;0099o;0099o;0099o;0099o;0099o;0099o");
    due.is("no letters", x.trust(0, 0), AgeLetters.NONE);
    x.letter(9, 0, 50, 0, -1);
    due.is("the last of all", x.trust(0, 0), 512);
    x.letter(5, 9, 40, 0, -1);
    due.is("the least bits", x.trust(0, 0), 32);
    due.is("of another word", x.trust(1, 0), AgeLetters.NONE);
    due.is("of another person", x.trust(0, 9), 32);
    due.is("whom nobody writes to", x.trust(0, 5), AgeLetters.NONE);
    x.knows(9, 1);
    due.is("nobody is needed", x.trust(0, 0), 0);
    x.knows(9, 2);
    due.is("too", x.trust(0, 0), 32);
    x.knows(0, 1);
    due.is("known of itself", x.trust(0, 0), 0);
    due.is("nothing is told", x.known(199, 5), 0);
    int[][] bad = {{-1, 0}, {8, 0}, {0, -1}, {0, 10}};
    for (int[] b : bad) {
      due.is("trust " + java.util.Arrays.toString(b), x.trust(b[0], b[1]), AgeLetters.BAD);
    }
    AgeLetters y = Due.of("0099o;0099o");
    y.letter(2, 0, 50, 0, -1);
    due.is("only whom there is", y.trust(0, 0), AgeLetters.NONE);
    y.letter(0, 1, 50, 0, -1);
    due.is("person 0, too", y.trust(0, 1), 1);
    due.is("trust(0, 2)", y.trust(0, 2), AgeLetters.BAD);
  }

  /** Word 1 goes from hand to hand where word 0 is known, and opens the letter with word 0. */
  private static void trustOfMany() {
    AgeLetters x = Due.of("0099o;0099o;0099o;0099o;0099o;0099o");
    x.knows(4, 2);
    x.letter(4, 3, 10, 1, 0);
    x.letter(3, 2, 20, 1, 0);
    x.letter(2, 0, 30, 1, -1);
    x.letter(1, 0, 40, 0, 1);
    due.is("three", x.trust(0, 0), Due.bits(1, 2, 3));
    x.letter(5, 0, 50, 0, 0);
    due.is("three still", x.trust(0, 0), Due.bits(1, 2, 3));
    x.knows(3, 2);
    due.is("two", x.trust(0, 0), Due.bits(1, 2));
    x.knows(3, 0);
    x.knows(4, 0);
    x.knows(5, 2);
    x.letter(5, 4, 5, 1, 0);
    due.is("four are too many", x.trust(0, 0), AgeLetters.NONE);
    x.letter(4, 0, 60, 0, -1);
    due.is("fewest go ahead of least bits", x.trust(0, 0), Due.bits(4));
  }

  private static void teach() {
    AgeLetters x = Due.of("1005o;0099o;1080o");
    x.knows(1, 7);
    x.letter(1, 2, 10, 0, -1);
    x.letter(1, 2, 15, 1, 0);
    x.letter(1, 2, 5, 1, -1);
    x.letter(1, 2, 8, 0, -1);
    due.is("too young", x.teach(2, 1, 7), AgeLetters.NONE);
    due.is("by the letter of age 8", x.teach(2, 1, 8), 8);
    due.is("of like ones the least bits", x.teach(2, 1, 10), 1);
    due.is("word 1", x.teach(2, 2, 5), 4);
    due.is("word 1, too young", x.teach(2, 2, 4), AgeLetters.NONE);
    due.is("the fewest", x.teach(2, 2, 50), 4);
    due.is("both", x.teach(2, 3, 8), 12);
    due.is("both, of like ones the least bits", x.teach(2, 3, 20), 3);
    due.is("one that nobody sends", x.teach(2, 4, 99), AgeLetters.NONE);
    due.is("no words", x.teach(2, 0, 0), 0);
    due.is("known of itself", x.teach(1, 7, 0), 0);
    due.is("whether it lives then or not", x.teach(0, 0, 99), 0);
    x.letter(1, 0, 12, 2, -1);
    due.is("it never is so old as to open it", x.teach(0, 4, 99), AgeLetters.NONE);
    x.letter(1, 0, 4, 2, -1);
    due.is("by its true age", x.teach(0, 4, 4), 32);
    due.is("long dead", x.teach(0, 4, 99), 32);
    due.is("too young", x.teach(0, 4, 3), AgeLetters.NONE);
    x.wipe();
    Due.typeAll(x, "1005f;0099o;1080o");
    due.is("it tells 5 more, but is young", x.teach(0, 4, 2), 32);
    due.is("it was written when it was not born", x.teach(0, 4, 0), 32);
    due.is("all letters are left", x.count(2), 6);
    int[][] bad = {{-1, 0, 0}, {3, 0, 0}, {0, -1, 0}, {0, 256, 0}, {0, 0, -1}, {0, 0, 100}};
    for (int[] b : bad) {
      due.is("teach " + java.util.Arrays.toString(b), x.teach(b[0], b[1], b[2]), AgeLetters.BAD);
    }
  }

  /** With all letters elder 1 reads out word 0 ahead of the birth of 0; without letter 1 behind it. */
  private static void teachWithoutAll() {
    AgeLetters x = Due.of("5040o;0099e;0099o;0099e");
    x.knows(2, 3);
    x.letter(2, 1, 10, 0, 1);
    x.letter(2, 3, 20, 1, -1);
    x.letter(2, 3, 60, 1, -1);
    due.is("opened(0)", x.opened(0), 21);
    due.is("learned(0, 0)", x.learned(0, 0), AgeLetters.NONE);
    due.is("all others being away", x.teach(0, 1, 40), 5);
    due.is("a year behind the needed word", x.teach(0, 1, 10), AgeLetters.NONE);
    due.is("then", x.teach(0, 1, 11), 5);
    due.is("learned(0, 0) again", x.learned(0, 0), AgeLetters.NONE);
  }
}
