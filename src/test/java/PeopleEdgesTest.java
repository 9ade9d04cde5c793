/** The boundary cases of promises 1 to 6: a new object, type, wipe, undo, fault, person. */
public final class PeopleEdgesTest {
  private static final Due due = new Due();
  private static final String TEN = "0001o;9999e;1010f;0190o;9001e;0909f;1099o;5550e;4501f;9901o";

  public static void main(String[] args) {
    newIsNobody();
    newSheetsAreLost();
    newHasNothingElse();
    typeTakesEveryByte();
    typeTells();
    typeIsFull();
    wipes();
    wipesNothingElse();
    undoes();
    undoMendsFaults();
    emptyIsWell();
    faultOfEveryByte();
    faultOfAnEnd();
    faultIsTheFirst();
    faultOfNotEnded();
    noEleventh();
    nobodyWithAFault();
    personsAtTheEdges();
    due.endOf(1, 2, 3, 4, 5, 6);
  }

  private static void newIsNobody() {
    due.promise(1, "Nobody");
    AgeLetters x = new AgeLetters();
    due.is("count(0)", x.count(0), 0);
    due.is("count(1)", x.count(1), 0);
    due.is("fault()", x.fault(), AgeLetters.NONE);
    for (int person = 0; person < 10; person++) {
      due.is("person(" + person + ", 0)", x.person(person, 0), AgeLetters.BAD);
      due.is("age(" + person + ", 0)", x.age(person, 0), AgeLetters.BAD);
    }
    AgeLetters other = Due.of("0070o");
    due.is("beside another: count(0)", x.count(0), 0);
    due.is("the other: count(0)", other.count(0), 1);
  }

  private static void newSheetsAreLost() {
    due.promise(1, "all SHEETS are LOST");
    for (int s = 0; s < 4; s++) {
      AgeLetters x = new AgeLetters();
      due.is("count(8) before any", x.count(8), 0);
      due.is("lose(" + s + ")", x.lose(s), -11);
      due.is("read(" + s + ")", x.read(s), -11);
      due.is("write(" + s + ")", x.write(s), -11);
      due.is("put(" + s + ", 0, 0, 0)", x.put(s, 0, 0, 0), -11);
      due.is("get(" + s + ", 0, 0)", x.get(s, 0, 0), Integer.MIN_VALUE);
      due.is("count(8)", x.count(8), 1);
    }
  }

  private static void newHasNothingElse() {
    due.promise(1, "WORDS that a PERSON KNOWS of itself: none at first");
    AgeLetters x = new AgeLetters();
    for (int person = 0; person < 10; person++) {
      due.is("knows(" + person + ", 0)", x.knows(person, 0), 0);
    }
    due.promise(1, "no LETTERS, nothing DONE");
    for (int what = 2; what <= 8; what++) {
      due.is("count(" + what + ")", x.count(what), 0);
    }
    due.is("sealed()", x.sealed(), 0);
    due.is("loud(0)", x.loud(0), AgeLetters.NONE);
    due.is("loud(1)", x.loud(1), AgeLetters.NONE);
    due.is("tooSoon()", x.tooSoon(), 0);
    for (int year = 0; year < 200; year++) {
      due.is("waits(" + year + ", 0)", x.waits(year, 0), 0);
    }
    due.is("waits(0, 1)", x.waits(0, 1), 0);
    due.is("waits(199, 1)", x.waits(199, 1), 0);
    due.is("forget()", x.forget(), 0);
    due.is("forged()", x.forged(), 1024);
    due.is("drawn(1, 16)", x.drawn(1, 16), 0);
  }

  private static void typeTakesEveryByte() {
    due.promise(2, "A byte (0 to 255)");
    AgeLetters x = new AgeLetters();
    for (int b = 0; b <= 255; b++) {
      if (b % 100 == 0) {
        x = new AgeLetters();
      }
      due.is("type(" + b + ")", x.type(b), 1);
      due.is("fault() of byte " + b, x.fault(), b >= '0' && b <= '9' ? 1 : 0);
      x.undo();
    }
    for (int b : new int[] {-1, 256, '0' + 256, Integer.MIN_VALUE, Integer.MAX_VALUE}) {
      due.is("type(" + b + ")", x.type(b), AgeLetters.BAD);
      due.is("count(1)", x.count(1), 0);
    }
  }

  private static void typeTells() {
    due.promise(2, "comes behind PEOPLE: how many");
    AgeLetters x = new AgeLetters();
    for (int i = 0; i < 59; i++) {
      due.is("type, the byte " + i, x.type(TEN.charAt(i)), i + 1);
      due.is("count(1)", x.count(1), i + 1);
      due.is("count(0)", x.count(0), i % 6 == 4 ? i / 6 + 1 : 0);
    }
  }

  private static void typeIsFull() {
    due.promise(2, "PEOPLE are a text of up to 59 bytes; FULL");
    AgeLetters x = Due.of(TEN);
    due.is("type(';'), the 60th", x.type(';'), AgeLetters.FULL);
    due.is("count(1)", x.count(1), 59);
    due.is("count(0)", x.count(0), 10);
    due.is("undo()", x.undo(), 58);
    due.is("type('f'), the 59th", x.type('f'), 59);
    due.is("person(9, 2)", x.person(9, 2), 2);
    due.is("type('o'), the 60th", x.type('o'), AgeLetters.FULL);
    due.is("person(9, 2)", x.person(9, 2), 2);
    due.promise(2, "BAD ahead of FULL");
    due.is("type(-1)", x.type(-1), AgeLetters.BAD);
    due.is("type(256)", x.type(256), AgeLetters.BAD);
  }

  private static void wipes() {
    due.promise(3, "PEOPLE are empty: how many bytes they had");
    AgeLetters x = new AgeLetters();
    due.is("wipe() of none", x.wipe(), 0);
    x.type('x');
    due.is("fault()", x.fault(), 0);
    due.is("wipe() of one", x.wipe(), 1);
    due.is("fault()", x.fault(), AgeLetters.NONE);
    Due.typeAll(x, TEN);
    due.is("wipe() of 59", x.wipe(), 59);
    due.is("count(0)", x.count(0), 0);
    due.is("count(1)", x.count(1), 0);
    due.is("person(0, 0)", x.person(0, 0), AgeLetters.BAD);
    due.is("wipe() again", x.wipe(), 0);
    due.is("undo()", x.undo(), AgeLetters.NOT);
    due.is("type('0')", x.type('0'), 1);
  }

  /** Words, letters, deeds and sheets, of those who are there and of those who are not. */
  private static AgeLetters filled(String people) {
    AgeLetters x = Due.of(people);
    x.knows(0, 3);
    x.knows(9, 128);
    x.letter(0, 1, 30, 0, -1);
    x.letter(0, 9, 30, 1, 0);
    x.done(60, 1, 0, 1);
    x.sheet(0, 0, 5);
    x.put(0, 0, 4, 44);
    x.sheet(3, 2, -1);
    return x;
  }

  private static void wipesNothingElse() {
    due.promise(3, "PEOPLE are empty, and nothing else is");
    AgeLetters x = filled("0070o;2050o");
    x.wipe();
    due.is("count(2)", x.count(2), 2);
    due.is("count(5)", x.count(5), 1);
    due.is("count(8)", x.count(8), 5);
    due.is("get(0, 0, 4)", x.get(0, 0, 4), 44);
    due.is("knows(9, 0)", x.knows(9, 0), 128);
    due.is("count(3), nobody being there", x.count(3), 0);
    due.isTrue("wiped, it is as one without people", Look.isSame(() -> filled(""), () -> {
      AgeLetters y = filled("0070o;2050o");
      y.wipe();
      return y;
    }));
    due.isTrue("with the same people again, it is as it was", Look.isSame(() -> filled("0070o;2050o"), () -> {
      AgeLetters y = filled("0070o;2050o");
      y.wipe();
      Due.typeAll(y, "0070o;2050o");
      return y;
    }));
  }

  private static void undoes() {
    due.promise(4, "The last byte is undone: how many are left. NOT: there is none");
    AgeLetters x = Due.of(TEN);
    for (int left = 58; left >= 0; left--) {
      due.is("undo()", x.undo(), left);
      due.is("count(1)", x.count(1), left);
      due.is("count(0)", x.count(0), left % 6 == 5 ? (left + 1) / 6 : 0);
    }
    due.is("undo() of none", x.undo(), AgeLetters.NOT);
    due.is("undo() of none again", x.undo(), AgeLetters.NOT);
    due.is("count(1)", x.count(1), 0);
    due.is("type('0')", x.type('0'), 1);
    due.is("undo()", x.undo(), 0);
  }

  private static void undoMendsFaults() {
    due.promise(4, "The last byte is undone, with its FAULT");
    AgeLetters x = Due.of("0070o");
    x.type('o');
    due.is("fault()", x.fault(), 5);
    due.is("undo()", x.undo(), 5);
    due.is("fault()", x.fault(), AgeLetters.NONE);
    due.is("count(0)", x.count(0), 1);
    due.is("person(0, 1)", x.person(0, 1), 70);
  }

  private static void emptyIsWell() {
    due.promise(5, "an empty text is well");
    AgeLetters x = new AgeLetters();
    due.is("fault() of a new one", x.fault(), AgeLetters.NONE);
    x.type(';');
    x.undo();
    due.is("fault() behind undo()", x.fault(), AgeLetters.NONE);
    x.type('0');
    x.wipe();
    due.is("fault() behind wipe()", x.fault(), AgeLetters.NONE);
  }

  private static boolean goesOn(int place, int b) {
    if (place % 6 == 5) {
      return b == ';';
    }
    return place % 6 == 4 ? b == 'o' || b == 'e' || b == 'f' : b >= '0' && b <= '9';
  }

  /** Each byte at each place of the first, the second and the tenth person. */
  private static void faultOfEveryByte() {
    due.promise(5, "the place of the first byte with which it cannot go on: two figures, two figures, o, e or f, ;");
    String text = "1111o;1111e;1111f;1111o;1111e;1111f;1111o;1111e;1111f;1111o";
    for (int place = 0; place < 59; place++) {
      if (place > 12 && place < 53) {
        continue;
      }
      for (int b = 0; b <= 255; b++) {
        AgeLetters x = Due.of(text.substring(0, place));
        x.type(b);
        boolean isEnd = place % 6 == 4;
        int want = !goesOn(place, b) ? place : isEnd ? AgeLetters.NONE : place + 1;
        due.is("fault() of byte " + b + " at " + place, x.fault(), want);
        due.is("count(0) of byte " + b + " at " + place, x.count(0), want == AgeLetters.NONE ? place / 6 + 1 : 0);
      }
    }
  }

  private static void faultOfAnEnd() {
    due.promise(5, "of the fourth figure of an END of 00");
    due.is("fault() of 00, just so", Due.of("0000").fault(), 3);
    due.is("fault() of 00, ended", Due.of("0000o").fault(), 3);
    due.is("fault() of 9900", Due.of("9900e").fault(), 3);
    due.is("fault() of 00, the second", Due.of("0001o;9900e").fault(), 9);
    due.is("fault() of 00, the tenth", Due.of(TEN.substring(0, 54) + "9900o").fault(), 57);
    due.is("the third figure may be 0", Due.of("000").fault(), 3);
    due.is("count(0) of 00", Due.of("0000o").count(0), 0);
    due.promise(5, "an END of 01 to 99");
    for (String end : new String[] {"01", "09", "10", "11", "90", "99"}) {
      due.is("fault() of an END of " + end, Due.of("00" + end + "o").fault(), AgeLetters.NONE);
    }
    due.promise(5, "BORN 00 to 99");
    for (String born : new String[] {"00", "01", "09", "10", "90", "99"}) {
      due.is("fault() of BORN " + born, Due.of(born + "01f").fault(), AgeLetters.NONE);
    }
  }

  private static void faultIsTheFirst() {
    due.promise(5, "the first byte with which it cannot go on");
    due.is("two faults", Due.of("00x0x").fault(), 2);
    due.is("a fault and no end", Due.of("0070o;x").fault(), 6);
    due.is("a fault and what is well behind it", Due.of("x070o;0070o").fault(), 0);
    due.is("an END of 00 and a fault behind it", Due.of("0000x").fault(), 3);
    due.is("; ahead of all", Due.of(";0070o").fault(), 0);
    due.is("; twice", Due.of("0070o;;0070o").fault(), 6);
    due.is("no ;", Due.of("0070o0070o").fault(), 5);
    due.is("59 bytes that are wrong", Due.of("x" + TEN.substring(1)).fault(), 0);
    due.is("59 bytes, the last is wrong", Due.of(TEN.substring(0, 58) + ";").fault(), 58);
  }

  private static void faultOfNotEnded() {
    due.promise(5, "of one that is not ended, its end");
    for (int length = 0; length <= 59; length++) {
      boolean isEnded = length == 0 || length % 6 == 5;
      due.is("fault() of " + length + " bytes", Due.of(TEN.substring(0, length)).fault(),
          isEnded ? AgeLetters.NONE : length);
    }
  }

  private static void noEleventh() {
    due.promise(5, "10 at most; the 59 bytes end with the tenth");
    AgeLetters x = Due.of(TEN);
    due.is("type(';')", x.type(';'), AgeLetters.FULL);
    due.is("type('0')", x.type('0'), AgeLetters.FULL);
    due.is("fault()", x.fault(), AgeLetters.NONE);
    due.is("count(0)", x.count(0), 10);
  }

  private static void nobodyWithAFault() {
    due.promise(5, "With a FAULT there is nobody");
    AgeLetters x = Due.of("0070e;2050o;2050o");
    x.knows(0, 1);
    x.letter(0, 1, 0, 0, -1);
    due.is("count(6)", x.count(6), 1);
    due.is("opened(0)", x.opened(0), 20);
    x.type(';');
    due.is("fault()", x.fault(), 18);
    due.is("count(0)", x.count(0), 0);
    due.is("count(6)", x.count(6), 0);
    due.is("count(7)", x.count(7), 0);
    for (int person = 0; person < 3; person++) {
      due.is("person(" + person + ", 0)", x.person(person, 0), AgeLetters.BAD);
      due.is("age(" + person + ", 30)", x.age(person, 30), AgeLetters.BAD);
      due.is("known(199, " + person + ")", x.known(199, person), AgeLetters.BAD);
    }
    due.is("written(0)", x.written(0), 0);
    due.is("opened(0)", x.opened(0), AgeLetters.NONE);
    due.is("forged()", x.forged(), 1024);
    due.is("drawn(0, 0)", x.drawn(0, 0), 0);
    x.undo();
    due.is("mended: opened(0)", x.opened(0), 20);
  }

  private static void personsAtTheEdges() {
    due.promise(6, "BORN (00 to 99), how old at its END (01 to 99), KIND (0 o, 1 e, 2 f)");
    int[][] want = {{0, 1, 0}, {99, 99, 1}, {10, 10, 2}, {1, 90, 0}, {90, 1, 1}, {9, 9, 2}, {10, 99, 0}, {55, 50, 1},
        {45, 1, 2}, {99, 1, 0}};
    AgeLetters x = Due.of(TEN);
    for (int person = 0; person < 10; person++) {
      for (int what = 0; what < 3; what++) {
        due.is("person(" + person + ", " + what + ")", x.person(person, what), want[person][what]);
      }
    }
    due.promise(6, "PERSONS (0 on) that there are: BAD");
    for (int person : new int[] {-1, 10, Integer.MIN_VALUE, Integer.MAX_VALUE}) {
      due.is("person(" + person + ", 0)", x.person(person, 0), AgeLetters.BAD);
    }
    for (int many = 1; many <= 10; many++) {
      AgeLetters y = Due.of(TEN.substring(0, 6 * many - 1));
      due.is("the last of " + many, y.person(many - 1, 0), want[many - 1][0]);
      due.is("one behind the last of " + many, y.person(many, 0), AgeLetters.BAD);
    }
    due.promise(6, "what = 0, 1, 2: BAD");
    for (int what : new int[] {-1, 3, Integer.MIN_VALUE, Integer.MAX_VALUE}) {
      due.is("person(0, " + what + ")", x.person(0, what), AgeLetters.BAD);
    }
  }
}
