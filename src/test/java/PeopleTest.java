/** Promises 1 to 6: a new object, type, wipe, undo, fault, person. */
public final class PeopleTest {
  private static final Due due = new Due();
  private static final String TEN =
      "0101o;0202e;0303f;0404o;0505e;0606f;0707o;0808e;0909f;9999o";

  public static void main(String[] args) {
    newObject();
    type();
    wipe();
    undo();
    fault();
    person();
    due.end();
  }

  private static void newObject() {
    AgeLetters x = new AgeLetters();
    for (int what = 0; what <= 8; what++) {
      due.is("new: count(" + what + ")", x.count(what), 0);
    }
    due.is("new: fault()", x.fault(), AgeLetters.NONE);
    due.is("new: person(0, 0)", x.person(0, 0), AgeLetters.BAD);
    due.is("new: undo()", x.undo(), AgeLetters.NOT);
    due.is("new: back()", x.back(), AgeLetters.NOT);
    due.is("new: forget()", x.forget(), 0);
    for (int person = 0; person < 10; person++) {
      due.is("new: knows(" + person + ", 0)", x.knows(person, 0), 0);
    }
    for (int s = 0; s < 4; s++) {
      due.is("new: lose(" + s + ")", x.lose(s), -11);
    }
    AgeLetters other = Due.of("0101o");
    due.is("one object's people are its own", x.count(1), 0);
    due.is("the other's too", other.count(1), 5);
  }

  private static void type() {
    AgeLetters x = new AgeLetters();
    due.is("type(-1)", x.type(-1), AgeLetters.BAD);
    due.is("type(256)", x.type(256), AgeLetters.BAD);
    due.is("type(least int)", x.type(Integer.MIN_VALUE), AgeLetters.BAD);
    due.is("type(48 and 256)", x.type(48 + 256), AgeLetters.BAD);
    due.is("nothing came", x.count(1), 0);
    due.is("type(0)", x.type(0), 1);
    due.is("type(255)", x.type(255), 2);
    for (int many = 3; many <= 59; many++) {
      due.is("type, the " + many + "th", x.type(59), many);
    }
    due.is("type, one too many", x.type(59), AgeLetters.FULL);
    due.is("BAD is told ahead of FULL", x.type(256), AgeLetters.BAD);
    due.is("still 59", x.count(1), 59);
    due.is("undo makes room", x.undo(), 58);
    due.is("type again", x.type(48), 59);
  }

  private static void wipe() {
    AgeLetters x = Due.of("0070o;2050e");
    x.knows(0, 9);
    x.letter(0, 1, 30, 0, -1);
    x.done(1, 0, 0, 1);
    x.sheet(2, 1, 7);
    due.is("opened(0)", x.opened(0), 50);
    due.is("wipe()", x.wipe(), 11);
    due.is("wipe() again", x.wipe(), 0);
    due.is("nobody", x.count(0), 0);
    due.is("no bytes", x.count(1), 0);
    due.is("letters stay", x.count(2), 1);
    due.is("but none is written", x.count(3), 0);
    due.is("nor opened", x.opened(0), AgeLetters.NONE);
    due.is("what was done stays", x.count(5), 1);
    due.is("sheets stay", x.lose(2), 7);
    due.is("words stay", x.knows(0, 9), 9);
    Due.typeAll(x, "0070o;2550e");
    due.is("with other people", x.opened(0), 55);
  }

  private static void undo() {
    AgeLetters x = Due.of("0070o;2050e");
    due.is("two", x.count(0), 2);
    due.is("undo()", x.undo(), 10);
    due.is("not ended", x.fault(), 10);
    due.is("nobody", x.count(0), 0);
    due.is("type('f')", x.type('f'), 11);
    due.is("two again", x.count(0), 2);
    due.is("of another kind", x.person(1, 2), 2);
    for (int left = 10; left >= 0; left--) {
      due.is("undo() to " + left, x.undo(), left);
    }
    due.is("undo() of nothing", x.undo(), AgeLetters.NOT);
    due.is("an empty text is well", x.fault(), AgeLetters.NONE);
  }

  private static void fault() {
    String[] texts = {
        "", "0", "01", "010", "0101", "0101o", "0101o;", "0101o;0", "0101o;0202e",
        "a", "0a", "01a", "010a", "0101a", "0101oa", "0101o;a", "0101o;;", "0101oo", ";", "/", ":", "01/", "010:",
        "0100", "0100o", "0100o;0202e", "0010o", "0001o", "1000o", "0101o;0200e", "0101o;0210e",
        "0101O", "0101E", "0101 ", "0101e", "0101f", "0101o,0202e", "9999f", "x101o;0202e", "0101o;020", TEN};
    int[] faults = {
        -1, 1, 2, 3, 4, -1, 6, 7, -1,
        0, 1, 2, 3, 4, 5, 6, 6, 5, 0, 0, 0, 2, 3,
        3, 3, 3, -1, -1, 3, 9, -1,
        4, 4, 4, -1, -1, 5, -1, 0, 9, -1};
    for (int i = 0; i < texts.length; i++) {
      AgeLetters x = Due.of(texts[i]);
      due.is("fault() of \"" + texts[i] + "\"", x.fault(), faults[i]);
      int persons = faults[i] != -1 ? 0 : (texts[i].length() + 1) / 6;
      due.is("persons of \"" + texts[i] + "\"", x.count(0), persons);
    }
    AgeLetters x = new AgeLetters();
    x.type(0);
    due.is("fault() of byte 0", x.fault(), 0);
    x.wipe();
    x.type(48);
    x.type(255);
    due.is("fault() of byte 255", x.fault(), 1);
  }

  private static void person() {
    AgeLetters x = Due.of(TEN);
    int[] kinds = {0, 1, 2, 0, 1, 2, 0, 1, 2, 0};
    for (int p = 0; p < 10; p++) {
      int number = p == 9 ? 99 : p + 1;
      due.is("person(" + p + ", 0)", x.person(p, 0), number);
      due.is("person(" + p + ", 1)", x.person(p, 1), number);
      due.is("person(" + p + ", 2)", x.person(p, 2), kinds[p]);
    }
    x = Due.of("0599e;8001o");
    due.is("born", x.person(0, 0), 5);
    due.is("end", x.person(0, 1), 99);
    due.is("elder", x.person(0, 2), 1);
    due.is("born", x.person(1, 0), 80);
    due.is("end", x.person(1, 1), 1);
    due.is("any", x.person(1, 2), 0);
    due.is("person(2, 0)", x.person(2, 0), AgeLetters.BAD);
    due.is("person(-1, 0)", x.person(-1, 0), AgeLetters.BAD);
    due.is("person(0, 3)", x.person(0, 3), AgeLetters.BAD);
    due.is("person(0, -1)", x.person(0, -1), AgeLetters.BAD);
    x.type(';');
    due.is("with a fault there is nobody", x.person(0, 0), AgeLetters.BAD);
  }
}
