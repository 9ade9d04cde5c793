import java.util.Random;

/** Random runs of calls, each answer held against that of the plain model. */
public final class AgainstPlainTest {
  private static final Due due = new Due();

  private final Random random;
  private final AgeLetters x = new AgeLetters();
  private final Plain y = new Plain();
  private final int run;
  private int calls = 0;

  private AgainstPlainTest(int run) {
    this.run = run;
    random = new Random(run);
  }

  public static void main(String[] args) {
    int runs = args.length > 0 ? Integer.parseInt(args[0]) : 60;
    int from = args.length > 1 ? Integer.parseInt(args[1]) : 0;
    for (int run = from; run < from + runs; run++) {
      new AgainstPlainTest(run).go();
    }
    due.end();
  }

  private void go() {
    boolean small = run % 4 != 0;
    people(small);
    words(small);
    letters(small);
    for (int i = random.nextInt(4); i > 0; i--) {
      deed();
    }
    while (calls < 330) {
      call(random.nextInt(33), small);
    }
    digest();
  }

  private void same(String call, long got, long want) {
    calls++;
    due.is("run " + run + ", call " + calls + ", " + call + " at \"" + y.text + "\" " + y.letters + " "
        + java.util.Arrays.toString(y.own), got, want);
  }

  /** Mostly below the bound, now and then a step or a world outside. */
  private int about(int bound) {
    int lot = random.nextInt(40);
    if (lot == 0) {
      return -1;
    }
    if (lot == 1) {
      return bound;
    }
    if (lot == 2) {
      return random.nextInt();
    }
    return random.nextInt(bound);
  }

  /** Whether people are of like ages, so that many letters are opened and words go from hand to hand. */
  private boolean isClose() {
    return run % 3 == 0;
  }

  private void type(int b) {
    same("type(" + b + ")", x.type(b), y.type(b));
  }

  private void people(boolean small) {
    int n = small ? 2 + random.nextInt(4) : 1 + random.nextInt(8);
    int spread = isClose() ? 12 : 20 + random.nextInt(80);
    for (int p = 0; p < n; p++) {
      int end = isClose() ? 35 + random.nextInt(30) : 1 + random.nextInt(99);
      String one = (p > 0 ? ";" : "") + String.format("%02d%02d", random.nextInt(spread), end)
          + "oeeof".charAt(random.nextInt(5));
      for (char c : one.toCharArray()) {
        type(c);
      }
    }
  }

  private void words(boolean small) {
    for (int p = 0; p < 10; p++) {
      int words = random.nextInt(256) & random.nextInt(256) & (small ? 7 : 255);
      same("knows(" + p + ", " + words + ")", x.knows(p, words), y.knows(p, words));
    }
  }

  private int someone() {
    int n = y.people().size();
    return n == 0 || random.nextInt(30) == 0 ? about(10) : random.nextInt(n);
  }

  private void letter(boolean small) {
    int writer = someone();
    int reader = someone();
    int year = random.nextInt(10) == 0 ? about(200) : isClose() ? 8 + random.nextInt(50) : random.nextInt(100);
    int word = about(small ? 3 : 8);
    int needed = random.nextInt(3) > 0 ? -1 : about(small ? 3 : 8);
    same("letter(" + writer + ", " + reader + ", " + year + ", " + word + ", " + needed + ")",
        x.letter(writer, reader, year, word, needed), y.letter(writer, reader, year, word, needed));
  }

  private void letters(boolean small) {
    int m = small ? 2 + random.nextInt(6) : random.nextInt(14);
    for (int l = 0; l < m; l++) {
      letter(small);
    }
  }

  private void deed() {
    // Mostly what came out so, that some words and forgers are left.
    int year = about(200);
    int person = someone();
    int word = about(4);
    int known = y.known(year, person);
    int is = known < 0 || word < 0 || word > 7 || random.nextInt(6) == 0 ? about(2) : known >> word & 1;
    same("done(" + year + ", " + person + ", " + word + ", " + is + ")",
        x.done(year, person, word, is), y.done(year, person, word, is));
  }

  private void digest() {
    boolean heavy = y.letters.size() > 8 || y.people().size() > 6;
    if (!heavy || run % 20 == 0) {
      same("digest()", x.digest(), y.digest());
    }
  }

  private void call(int which, boolean small) {
    int a = about(4);
    int b = about(3);
    int i = about(6);
    int year = about(200);
    int word = about(small ? 4 : 8);
    int person = someone();
    boolean heavy = y.letters.size() > 8 || y.people().size() > 6;
    switch (which) {
      case 0 -> { if (random.nextInt(6) == 0) { type(about(256)); undo(); } }
      case 1 -> { if (random.nextInt(60) == 0) { same("wipe()", x.wipe(), y.wipe()); people(small); } }
      case 2 -> { if (random.nextInt(6) == 0) { undo(); same("fault()", x.fault(), y.fault()); again(); } }
      case 3 -> same("fault()", x.fault(), y.fault());
      case 4 -> same("person(" + person + ", " + b + ")", x.person(person, b), y.person(person, b));
      case 5 -> knows();
      case 6 -> letter(small);
      case 7 -> { if (random.nextInt(2) == 0) { same("back()", x.back(), y.back()); } }
      case 8 -> { if (random.nextInt(3) == 0) { readSome(a); } }
      case 9 -> same("age(" + person + ", " + year + ")", x.age(person, year), y.age(person, year));
      case 10 -> { int l = about(12); same("opened(" + l + ")", x.opened(l), y.opened(l)); }
      case 11 -> { int l = about(12); same("written(" + l + ")", x.written(l), y.written(l)); }
      case 12 -> { int w = about(2); same("waits(" + year + ", " + w + ")", x.waits(year, w), y.waits(year, w)); }
      case 13 -> same("known(" + year + ", " + person + ")", x.known(year, person), y.known(year, person));
      case 14 -> same("learned(" + person + ", " + word + ")", x.learned(person, word), y.learned(person, word));
      case 15 -> same("sealed()", x.sealed(), y.sealed());
      case 16 -> { int w = about(2); same("loud(" + w + ")", x.loud(w), y.loud(w)); }
      case 17 -> same("tooSoon()", x.tooSoon(), y.tooSoon());
      case 18 -> { if (random.nextInt(4) == 0) {
        same("send(" + word + ", " + person + ", " + b + ")", x.send(word, person, b), y.send(word, person, b)); } }
      case 19 -> same("trust(" + word + ", " + person + ")", x.trust(word, person), y.trust(word, person));
      case 20 -> { if (!heavy || random.nextInt(20) == 0) { teach(person); } }
      case 21 -> deed();
      case 22 -> { if (random.nextInt(8) == 0) { same("forget()", x.forget(), y.forget()); } }
      case 23 -> { int l = about(12); same("said(" + l + ")", x.said(l), y.said(l)); }
      case 24 -> same("forged()", x.forged(), y.forged());
      case 25 -> { if (!heavy || random.nextInt(20) == 0) { chance(person, word); } }
      case 26 -> { int seed = random.nextInt(); int c = about(17);
        same("drawn(" + seed + ", " + c + ")", x.drawn(seed, c), y.drawn(seed, c)); }
      case 27 -> { int n = about(49); same("sheet(" + a + ", " + b + ", " + n + ")", x.sheet(a, b, n), y.sheet(a, b, n)); }
      case 28 -> { if (random.nextInt(6) == 0) { same("lose(" + a + ")", x.lose(a), y.lose(a)); } }
      case 29 -> put(a, b, i);
      case 30 -> { same("get(" + a + ", " + b + ", " + i + ")", x.get(a, b, i), y.get(a, b, i)); }
      case 31 -> { int t = about(4); int j = about(49); int n = about(49);
        same("copy(" + a + ", " + i + ", " + t + ", " + j + ", " + n + ")", x.copy(a, i, t, j, n), y.copy(a, i, t, j, n)); }
      default -> { same("write(" + a + ")", x.write(a), y.write(a)); }
    }
    int what = about(9);
    same("count(" + what + ")", x.count(what), y.count(what));
  }

  private void undo() {
    same("undo()", x.undo(), y.undo());
  }

  /** A text that ends in a whole person again, if it did before its last byte was undone. */
  private void again() {
    type("oef".charAt(random.nextInt(3)));
  }

  private void knows() {
    int person = about(10);
    int words = about(256);
    same("knows(" + person + ", " + words + ")", x.knows(person, words), y.knows(person, words));
  }

  private void readSome(int s) {
    for (int i = 0; i < 10; i++) {
      int v = i % 5 == 2 ? random.nextInt(128) : i % 5 == 4 ? random.nextInt(3) - 1 : random.nextInt(4);
      int form = random.nextInt(3);
      same("put(" + s + ", " + form + ", " + i + ", " + v + ")", x.put(s, form, i, v), y.put(s, form, i, v));
    }
    same("read(" + s + ")", x.read(s), y.read(s));
  }

  private void teach(int person) {
    int words = random.nextInt(12) == 0 ? about(256) : random.nextInt(8);
    int age = about(100);
    same("teach(" + person + ", " + words + ", " + age + ")", x.teach(person, words, age), y.teach(person, words, age));
  }

  private void chance(int person, int word) {
    int c = about(17);
    int what = about(2);
    same("chance(" + c + ", " + person + ", " + word + ", " + what + ")",
        x.chance(c, person, word, what), y.chance(c, person, word, what));
  }

  private void put(int s, int form, int i) {
    int v = random.nextInt() >> random.nextInt(32);
    same("put(" + s + ", " + form + ", " + i + ", " + v + ")", x.put(s, form, i, v), y.put(s, form, i, v));
  }
}
