import java.util.function.Supplier;
import java.util.function.ToLongFunction;

/** Every refused call: its answer, which refusal goes first, and that it changes nothing. */
public final class RefusalsTest {
  private static final Due due = new Due();
  private static final int LEAST = Integer.MIN_VALUE;
  private static final int MOST = Integer.MAX_VALUE;
  private static final int BAD = AgeLetters.BAD, NOT = AgeLetters.NOT, FULL = AgeLetters.FULL;
  private static final int LOST = 1, INDEX = 2, CAST = 3, STORE = 4, SIZE = 5;
  private static final String TEN = "0070o;1060e;0580f;2050o;3040e;1590o;0199f;2575o;0866o;4050e";

  /** The object that is asked next, as it is made. */
  private static Supplier<AgeLetters> made;

  public static void main(String[] args) {
    ofNew();
    ofFaulty();
    people();
    letters();
    years();
    plans();
    done();
    sheets();
    copies();
    full();
    // The others (3, 5, 17, 19, 24, 26, 36) refuse nothing.
    due.endOf(2, 4, 6, 7, 8, 9, 10, 11, 12, 13, 14, 15, 16, 18, 20, 21, 22, 23, 25, 27, 28, 29, 30, 31, 32, 33, 34, 35);
  }

  /** Three persons (0 and 1, and elder 2), three letters, two done; sheet 3 is lost, sheet 2 is empty. */
  private static AgeLetters village() {
    AgeLetters x = Due.of("0070o;2050f;3060e");
    x.knows(0, 7);
    x.knows(5, 9);
    x.letter(0, 1, 30, 0, -1);
    x.letter(0, 2, 40, 1, -1);
    x.letter(1, 2, 60, 0, 2);
    x.done(60, 1, 0, 1);
    x.done(20, 2, 0, 0);
    x.sheet(0, 0, 5);
    x.sheet(1, 2, 7);
    x.sheet(2, 2, 0);
    for (int i = 0; i < 5; i++) {
      x.put(0, 0, i, 10 + i);
      x.put(1, 2, i, 1000 + i);
    }
    return x;
  }

  private static AgeLetters faulty() {
    AgeLetters x = village();
    x.type(';');
    return x;
  }

  /** All bytes, letters and done that there may be, and four sheets of 48. */
  private static AgeLetters filled() {
    AgeLetters x = Due.of(TEN);
    for (int i = 0; i < 12; i++) {
      x.knows(i % 10, 1 << i % 8);
      x.letter(i % 10, (i + 1) % 10, 25 + 3 * i, i % 8, i % 4 - 1);
    }
    for (int i = 0; i < 8; i++) {
      x.done(190, i, i, x.known(190, i) >> i & 1);
    }
    for (int s = 0; s < 4; s++) {
      x.sheet(s, s % 3, 48);
      x.put(s, s % 3, 47, s + 1);
    }
    return x;
  }

  private static void refused(String call, ToLongFunction<AgeLetters> asked, long answer) {
    refused(call, asked, answer, 0);
  }

  private static void finds(String call, ToLongFunction<AgeLetters> asked, int finding) {
    refused(call, asked, -10 - finding, finding);
  }

  /** No finding: 0. */
  private static void refused(String call, ToLongFunction<AgeLetters> asked, long answer, int finding) {
    Supplier<AgeLetters> base = made;
    AgeLetters x = base.get();
    // What was found ahead is not to be taken for what is found now.
    x.sheet(0, 0, -1);
    due.is(call, asked.applyAsLong(x), answer);
    due.is(call + " and then count(8)", x.count(8), finding == 0 ? SIZE : finding);
    due.isTrue(call + " changes nothing", Look.isSame(base, () -> {
      AgeLetters y = base.get();
      asked.applyAsLong(y);
      return y;
    }));
    if (finding == 0) {
      AgeLetters y = base.get();
      int ahead = y.count(8);
      asked.applyAsLong(y);
      due.is(call + " is no finding: count(8)", y.count(8), ahead);
    }
  }

  private static void ofNew() {
    made = AgeLetters::new;
    due.promise(4, "NOT: there is none");
    refused("undo()", x -> x.undo(), NOT);
    due.promise(6, "BAD: no such PERSON, nobody being there");
    refused("person(0, 0)", x -> x.person(0, 0), BAD);
    due.promise(9, "NOT: there is none");
    refused("back()", x -> x.back(), NOT);
    due.promise(10, "NULL");
    finds("read(0)", x -> x.read(0), LOST);
    due.promise(11, "BAD: no such PERSON, nobody being there");
    refused("age(0, 0)", x -> x.age(0, 0), BAD);
    due.promise(12, "BAD: no such LETTER, there being none");
    refused("opened(0)", x -> x.opened(0), BAD);
    due.promise(13, "BAD: no such LETTER, there being none");
    refused("written(0)", x -> x.written(0), BAD);
    due.promise(25, "BAD: no such LETTER, there being none");
    refused("said(0)", x -> x.said(0), BAD);
    ofNobody();
    due.promise(30, "NULL");
    for (int s = 0; s < 4; s++) {
      int sheet = s;
      finds("lose(" + s + ")", x -> x.lose(sheet), LOST);
    }
    due.promise(34, "NULL");
    finds("write(3)", x -> x.write(3), LOST);
    due.promise(33, "NULL: s, t, both LOST, and the same");
    finds("copy(0, 0, 1, 0, 0)", x -> x.copy(0, 0, 1, 0, 0), LOST);
    finds("copy(2, 0, 2, 0, 0)", x -> x.copy(2, 0, 2, 0, 0), LOST);
  }

  private static void ofFaulty() {
    made = RefusalsTest::faulty;
    due.promise(5, "With a FAULT there is nobody");
    due.is("fault()", made.get().fault(), 18);
    due.promise(6, "With a FAULT there is nobody");
    refused("person(0, 0)", x -> x.person(0, 0), BAD);
    refused("person(2, 2)", x -> x.person(2, 2), BAD);
    due.promise(11, "With a FAULT there is nobody");
    refused("age(0, 10)", x -> x.age(0, 10), BAD);
    ofNobody();
  }

  private static void ofNobody() {
    due.promise(15, "BAD: no such PERSON, nobody being there");
    refused("known(0, 0)", x -> x.known(0, 0), BAD);
    due.promise(16, "BAD: no such PERSON, nobody being there");
    refused("learned(0, 0)", x -> x.learned(0, 0), BAD);
    due.promise(20, "BAD: no such PERSON, nobody being there");
    refused("send(0, 0, 0)", x -> x.send(0, 0, 0), BAD);
    due.promise(21, "BAD: no such PERSON, nobody being there");
    refused("trust(0, 0)", x -> x.trust(0, 0), BAD);
    due.promise(22, "BAD: no such PERSON, nobody being there");
    refused("teach(0, 0, 0)", x -> x.teach(0, 0, 0), BAD);
    due.promise(27, "A refusal -x is the least long and x more");
    refused("chance(4, 0, 0, 0)", x -> x.chance(4, 0, 0, 0), Long.MIN_VALUE + 2);
  }

  private static void people() {
    made = RefusalsTest::village;
    due.promise(2, "A byte (0 to 255): BAD");
    for (int b : new int[] {-1, 256, 48 + 256, -208, LEAST, MOST}) {
      refused("type(" + b + ")", x -> x.type(b), BAD);
    }
    due.promise(6, "of a PERSON: BAD");
    for (int p : new int[] {-1, 3, 5, 9, 10, LEAST, MOST}) {
      refused("person(" + p + ", 0)", x -> x.person(p, 0), BAD);
    }
    due.promise(6, "what = 0, 1, 2: BAD");
    for (int what : new int[] {-1, 3, LEAST, MOST}) {
      refused("person(0, " + what + ")", x -> x.person(0, what), BAD);
    }
    due.promise(7, "a PERSON (0 to 9): BAD");
    for (int p : new int[] {-1, 10, LEAST, MOST}) {
      refused("knows(" + p + ", 1)", x -> x.knows(p, 1), BAD);
    }
    due.promise(7, "WORDS (0 to 255): BAD");
    for (int words : new int[] {-1, 256, 263, LEAST, MOST}) {
      refused("knows(0, " + words + ")", x -> x.knows(0, words), BAD);
      refused("knows(5, " + words + ")", x -> x.knows(5, words), BAD);
    }
  }

  private static final int[][] BAD_LETTERS = {
      {-1, 1, 50, 0, -1}, {10, 1, 50, 0, -1}, {LEAST, 1, 50, 0, -1}, {MOST, 1, 50, 0, -1},
      {0, -1, 50, 0, -1}, {0, 10, 50, 0, -1}, {0, LEAST, 50, 0, -1}, {0, MOST, 50, 0, -1},
      {0, 0, 50, 0, -1}, {2, 2, 50, 0, -1}, {9, 9, 50, 0, -1},
      {0, 1, -1, 0, -1}, {0, 1, 200, 0, -1}, {0, 1, LEAST, 0, -1}, {0, 1, MOST, 0, -1},
      {0, 1, 50, -1, -1}, {0, 1, 50, 8, -1}, {0, 1, 50, LEAST, -1}, {0, 1, 50, MOST, -1},
      {0, 1, 50, 0, -2}, {0, 1, 50, 0, 8}, {0, 1, 50, 0, LEAST}, {0, 1, 50, 0, MOST}};

  private static void badLetters() {
    for (int[] l : BAD_LETTERS) {
      refused("letter" + java.util.Arrays.toString(l), x -> x.letter(l[0], l[1], l[2], l[3], l[4]), BAD);
    }
  }

  private static void letters() {
    made = RefusalsTest::village;
    due.promise(8, "a writer and a reader, a YEAR, a WORD, one NEEDED: BAD: also to oneself");
    badLetters();
    due.promise(10, "BAD ahead of NULL");
    for (int s : new int[] {-1, 4, LEAST, MOST}) {
      refused("read(" + s + ")", x -> x.read(s), BAD);
    }
    due.promise(10, "NULL: the SHEET is LOST");
    finds("read(3)", x -> x.read(3), LOST);
  }

  private static void years() {
    made = RefusalsTest::village;
    for (int p : new int[] {-1, 3, 9, 10, LEAST, MOST}) {
      due.promise(11, "a PERSON: BAD");
      refused("age(" + p + ", 50)", x -> x.age(p, 50), BAD);
      due.promise(15, "a PERSON: BAD");
      refused("known(50, " + p + ")", x -> x.known(50, p), BAD);
      due.promise(16, "a PERSON: BAD");
      refused("learned(" + p + ", 0)", x -> x.learned(p, 0), BAD);
    }
    for (int year : new int[] {-1, 200, LEAST, MOST}) {
      due.promise(11, "YEARS are 0 to 199: BAD");
      refused("age(0, " + year + ")", x -> x.age(0, year), BAD);
      due.promise(14, "YEARS are 0 to 199: BAD");
      refused("waits(" + year + ", 0)", x -> x.waits(year, 0), BAD);
      refused("waits(" + year + ", 1)", x -> x.waits(year, 1), BAD);
      due.promise(15, "YEARS are 0 to 199: BAD");
      refused("known(" + year + ", 0)", x -> x.known(year, 0), BAD);
    }
    for (int letter : new int[] {-1, 3, 11, 12, LEAST, MOST}) {
      due.promise(12, "a LETTER: BAD");
      refused("opened(" + letter + ")", x -> x.opened(letter), BAD);
      due.promise(13, "a LETTER: BAD");
      refused("written(" + letter + ")", x -> x.written(letter), BAD);
    }
    for (int what : new int[] {-1, 2, LEAST, MOST}) {
      due.promise(14, "what = 0, 1: BAD");
      refused("waits(50, " + what + ")", x -> x.waits(50, what), BAD);
      due.promise(18, "what = 0, 1: BAD");
      refused("loud(" + what + ")", x -> x.loud(what), BAD);
    }
    due.promise(16, "a WORD (0 to 7): BAD");
    for (int word : new int[] {-1, 8, LEAST, MOST}) {
      refused("learned(0, " + word + ")", x -> x.learned(0, word), BAD);
    }
  }

  private static void plans() {
    made = RefusalsTest::village;
    for (int word : new int[] {-1, 8, LEAST, MOST}) {
      due.promise(20, "a told WORD (0 to 7): BAD");
      refused("send(" + word + ", 1, 0)", x -> x.send(word, 1, 0), BAD);
      due.promise(21, "a told WORD (0 to 7): BAD");
      refused("trust(" + word + ", 1)", x -> x.trust(word, 1), BAD);
    }
    for (int p : new int[] {-1, 3, 9, 10, LEAST, MOST}) {
      due.promise(20, "a told PERSON: BAD");
      refused("send(0, " + p + ", 0)", x -> x.send(0, p, 0), BAD);
      due.promise(21, "a told PERSON: BAD");
      refused("trust(0, " + p + ")", x -> x.trust(0, p), BAD);
      due.promise(22, "a PERSON: BAD");
      refused("teach(" + p + ", 1, 50)", x -> x.teach(p, 1, 50), BAD);
    }
    due.promise(20, "what = 0, 1, 2: BAD");
    for (int what : new int[] {-1, 3, LEAST, MOST}) {
      refused("send(0, 1, " + what + ")", x -> x.send(0, 1, what), BAD);
    }
    due.promise(22, "BAD (words 0 to 255)");
    for (int words : new int[] {-1, 256, LEAST, MOST}) {
      refused("teach(1, " + words + ", 50)", x -> x.teach(1, words, 50), BAD);
    }
    due.promise(22, "a told AGE (0 to 99): BAD");
    for (int age : new int[] {-1, 100, LEAST, MOST}) {
      refused("teach(1, 1, " + age + ")", x -> x.teach(1, 1, age), BAD);
    }
  }

  private static final int[][] BAD_DONE = {
      {-1, 0, 0, 0}, {200, 0, 0, 0}, {LEAST, 0, 0, 0}, {MOST, 0, 0, 0},
      {9, -1, 0, 0}, {9, 10, 0, 0}, {9, LEAST, 0, 0}, {9, MOST, 0, 0},
      {9, 0, -1, 0}, {9, 0, 8, 0}, {9, 0, LEAST, 0}, {9, 0, MOST, 0},
      {9, 0, 0, -1}, {9, 0, 0, 2}, {9, 0, 0, LEAST}, {9, 0, 0, MOST}};

  private static void badDone() {
    for (int[] d : BAD_DONE) {
      refused("done" + java.util.Arrays.toString(d), x -> x.done(d[0], d[1], d[2], d[3]), BAD);
    }
  }

  private static void done() {
    made = RefusalsTest::village;
    due.promise(23, "behind a YEAR a PERSON (0 to 9) KNEW a WORD (1), or did not (0): BAD");
    badDone();
    due.promise(25, "a LETTER: BAD");
    for (int letter : new int[] {-1, 3, 11, 12, LEAST, MOST}) {
      refused("said(" + letter + ")", x -> x.said(letter), BAD);
    }
    due.promise(27, "c sixteenths (0 to 16), a PERSON, a WORD, above, below: the least long and 2 more");
    int[][] bad = {
        {-1, 1, 0, 0}, {17, 1, 0, 0}, {LEAST, 1, 0, 0}, {MOST, 1, 0, 0},
        {4, -1, 0, 0}, {4, 3, 0, 0}, {4, 10, 0, 0}, {4, LEAST, 0, 0}, {4, MOST, 0, 0},
        {4, 1, -1, 0}, {4, 1, 8, 0}, {4, 1, LEAST, 0}, {4, 1, MOST, 0},
        {4, 1, 0, -1}, {4, 1, 0, 2}, {4, 1, 0, LEAST}, {4, 1, 0, MOST}};
    for (int[] b : bad) {
      refused("chance" + java.util.Arrays.toString(b), x -> x.chance(b[0], b[1], b[2], b[3]), Long.MIN_VALUE + 2);
    }
    due.promise(28, "c (0 to 16): BAD");
    for (int c : new int[] {-1, 17, LEAST, MOST}) {
      refused("drawn(7, " + c + ")", x -> x.drawn(7, c), BAD);
    }
  }

  private static void sheets() {
    made = RefusalsTest::village;
    due.promise(29, "BAD: SHEET, FORM, above 48; ahead of SIZE");
    int[][] bad = {
        {-1, 0, 3}, {4, 0, 3}, {LEAST, 0, 3}, {MOST, 0, 3}, {-1, 0, -1}, {4, 0, -1},
        {0, -1, 3}, {0, 3, 3}, {0, LEAST, 3}, {0, MOST, 3}, {0, -1, -1}, {0, 3, -1},
        {0, 0, 49}, {3, 2, 49}, {0, 0, MOST}};
    for (int[] b : bad) {
      refused("sheet" + java.util.Arrays.toString(b), x -> x.sheet(b[0], b[1], b[2]), BAD);
    }
    due.promise(29, "SIZE: below 0");
    for (int n : new int[] {-1, -48, LEAST}) {
      finds("sheet(0, 0, " + n + ")", x -> x.sheet(0, 0, n), SIZE);
      finds("sheet(3, 1, " + n + ")", x -> x.sheet(3, 1, n), SIZE);
    }
    for (int s : new int[] {-1, 4, LEAST, MOST}) {
      due.promise(30, "BAD");
      refused("lose(" + s + ")", x -> x.lose(s), BAD);
      due.promise(34, "BAD");
      refused("write(" + s + ")", x -> x.write(s), BAD);
    }
    due.promise(30, "NULL");
    finds("lose(3)", x -> x.lose(3), LOST);
    due.promise(34, "NULL");
    finds("write(3)", x -> x.write(3), LOST);
    due.promise(35, "count() 0 to 8: BAD");
    for (int what : new int[] {-1, 9, LEAST, MOST}) {
      refused("count(" + what + ")", x -> x.count(what), BAD);
    }
    items();
  }

  private static void items() {
    int[][] bad = {{-1, 0, 0}, {4, 0, 0}, {LEAST, 0, 0}, {MOST, 0, 0}, {0, -1, 0}, {0, 3, 0}, {0, LEAST, 0}, {0, MOST, 0},
        {3, 3, 0}, {3, -1, -1}, {0, 3, 5}, {4, 1, -1}};
    for (int[] b : bad) {
      item(31, "BAD ahead of all findings", b, 0);
      item(32, "BAD: the least int", b, 0);
    }
    int[][] found = {
        {LOST, 3, 0, 0}, {LOST, 3, 2, -1}, {LOST, 3, 1, 48}, {LOST, 3, 0, LEAST}, {LOST, 3, 0, MOST},
        {CAST, 0, 1, 0}, {CAST, 0, 2, 4}, {CAST, 1, 0, 0}, {CAST, 1, 1, 6}, {CAST, 2, 0, 0}, {CAST, 0, 1, 5}, {CAST, 1, 0, -1},
        {INDEX, 0, 0, -1}, {INDEX, 0, 0, 5}, {INDEX, 1, 2, -1}, {INDEX, 1, 2, 7}, {INDEX, 2, 2, 0},
        {INDEX, 0, 0, LEAST}, {INDEX, 0, 0, MOST}};
    for (int[] f : found) {
      int[] at = {f[1], f[2], f[3]};
      item(31, "NULL; CAST; INDEX", at, f[0]);
      item(32, "so are NULL, CAST, INDEX (count() 8 tells)", at, f[0]);
    }
  }

  private static void item(int promise, String sentence, int[] at, int finding) {
    due.promise(promise, sentence);
    String where = java.util.Arrays.toString(at);
    if (promise == 31) {
      refused("put" + where, x -> x.put(at[0], at[1], at[2], 77), finding == 0 ? BAD : -10 - finding, finding);
    } else {
      refused("get" + where, x -> x.get(at[0], at[1], at[2]), LEAST, finding);
    }
  }

  /** Sheets 0 and 1 are shorts, 5 and 7 of them; 2 are bytes; 3 is lost. */
  private static AgeLetters withShorts() {
    AgeLetters x = Due.of("0070o");
    x.sheet(0, 1, 5);
    x.sheet(1, 1, 7);
    x.sheet(2, 0, 5);
    for (int i = 0; i < 5; i++) {
      x.put(0, 1, i, 300 + i);
      x.put(1, 1, i, 500 + i);
      x.put(2, 0, i, 7 + i);
    }
    return x;
  }

  private static void copied(int answer, int finding, int... at) {
    refused("copy" + java.util.Arrays.toString(at), x -> x.copy(at[0], at[1], at[2], at[3], at[4]), answer, finding);
  }

  private static void copies() {
    made = RefusalsTest::withShorts;
    due.promise(33, "BAD: the SHEETS, ahead of all findings");
    for (int s : new int[] {-1, 4, LEAST, MOST}) {
      copied(BAD, 0, s, 0, 0, 0, 1);
      copied(BAD, 0, 0, 0, s, 0, 1);
      copied(BAD, 0, s, -1, 3, 0, 1);
      copied(BAD, 0, 3, 0, s, 0, -1);
    }
    due.promise(33, "NULL: s, t, ahead of STORE and INDEX");
    copied(-11, LOST, 3, 0, 0, 0, 1);
    copied(-11, LOST, 0, 0, 3, 0, 1);
    copied(-11, LOST, 3, -1, 2, 9, -1);
    copied(-11, LOST, 2, 9, 3, -1, MOST);
    copied(-11, LOST, 3, 0, 3, 0, 0);
    due.promise(33, "STORE: unlike FORMS, ahead of INDEX, also of no items");
    copied(-14, STORE, 0, 0, 2, 0, 1);
    copied(-14, STORE, 2, 0, 1, 0, 5);
    copied(-14, STORE, 0, 0, 2, 0, 0);
    copied(-14, STORE, 0, -1, 2, 0, 1);
    copied(-14, STORE, 0, 0, 2, 6, -1);
    due.promise(33, "INDEX: i, j or n below 0");
    copied(-12, INDEX, 0, -1, 1, 0, 1);
    copied(-12, INDEX, 0, 0, 1, -1, 1);
    copied(-12, INDEX, 0, 0, 1, 0, -1);
    copied(-12, INDEX, 0, 2, 0, 3, -1);
    copied(-12, INDEX, 0, -1, 1, 0, 0);
    copied(-12, INDEX, 0, 0, 1, -1, 0);
    copied(-12, INDEX, 0, LEAST, 1, 0, LEAST);
    copied(-12, INDEX, 0, 0, 1, LEAST, 1);
    due.promise(33, "INDEX: not so many there");
    copied(-12, INDEX, 0, 0, 1, 0, 6);
    copied(-12, INDEX, 0, 1, 1, 0, 5);
    copied(-12, INDEX, 0, 5, 1, 0, 1);
    copied(-12, INDEX, 1, 0, 0, 0, 6);
    copied(-12, INDEX, 1, 0, 0, 1, 5);
    copied(-12, INDEX, 1, 0, 0, 5, 1);
    copied(-12, INDEX, 0, 0, 0, 1, 5);
    copied(-12, INDEX, 0, 1, 0, 0, MOST);
    copied(-12, INDEX, 0, MOST, 1, 0, 1);
    copied(-12, INDEX, 0, 0, 1, MOST, 1);
    copied(-12, INDEX, 0, MOST, 1, MOST, MOST);
    due.promise(33, "INDEX: of n 0, too: i or j above the size");
    copied(-12, INDEX, 0, 6, 1, 0, 0);
    copied(-12, INDEX, 0, 0, 1, 8, 0);
    copied(-12, INDEX, 0, MOST, 1, 0, 0);
    copied(-12, INDEX, 0, 0, 1, MOST, 0);
  }

  private static void full() {
    made = RefusalsTest::filled;
    due.promise(2, "up to 59 bytes: FULL");
    for (int b : new int[] {0, ';', '0', 255}) {
      refused("type(" + b + ")", x -> x.type(b), FULL);
    }
    due.promise(2, "BAD ahead of FULL");
    refused("type(-1)", x -> x.type(-1), BAD);
    refused("type(256)", x -> x.type(256), BAD);
    due.promise(6, "10 at most (0 on): BAD");
    refused("person(10, 0)", x -> x.person(10, 0), BAD);
    due.promise(8, "LETTERS, 12 at most: FULL");
    refused("letter(0, 1, 50, 0, -1)", x -> x.letter(0, 1, 50, 0, -1), FULL);
    refused("letter(9, 0, 199, 7, 7)", x -> x.letter(9, 0, 199, 7, 7), FULL);
    due.promise(12, "12 at most (0 on): BAD");
    refused("opened(12)", x -> x.opened(12), BAD);
    due.promise(13, "12 at most (0 on): BAD");
    refused("written(12)", x -> x.written(12), BAD);
    due.promise(23, "DONE, 8 at most: FULL");
    refused("done(0, 0, 0, 0)", x -> x.done(0, 0, 0, 0), FULL);
    refused("done(199, 9, 7, 1)", x -> x.done(199, 9, 7, 1), FULL);
    due.promise(25, "12 at most (0 on): BAD");
    refused("said(12)", x -> x.said(12), BAD);
    due.promise(31, "48 items: INDEX");
    finds("put(0, 0, 48, 1)", x -> x.put(0, 0, 48, 1), INDEX);
    due.promise(33, "48 items: INDEX");
    finds("copy(0, 0, 3, 1, 48)", x -> x.copy(0, 0, 3, 1, 48), INDEX);
    due.promise(8, "BAD ahead of FULL");
    badLetters();
    due.promise(23, "BAD ahead of FULL");
    badDone();
  }
}
