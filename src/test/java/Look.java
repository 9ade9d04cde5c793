import java.util.Arrays;
import java.util.function.Supplier;

/**
 * All that can be asked of an object, so that two of them can be held against each other.
 *
 * <p>An object is for 512 calls, and to look is to call; so there are several parts, each for an
 * object of its own. A part may change its object: it is thrown away behind it.
 */
final class Look {
  private static final int PARTS = 8;

  private final AgeLetters x;
  private long[] seen = new long[600];
  private int many = 0;

  private Look(AgeLetters x) {
    this.x = x;
  }

  /** Whether objects made so and so look the same, but for count(8). */
  static boolean isSame(Supplier<AgeLetters> one, Supplier<AgeLetters> other) {
    for (int part = 0; part < PARTS; part++) {
      if (!Arrays.equals(of(one.get(), part), of(other.get(), part))) {
        return false;
      }
    }
    return true;
  }

  private static long[] of(AgeLetters x, int part) {
    Look look = new Look(x);
    switch (part) {
      case 0 -> look.people();
      case 1 -> look.waiting(0);
      case 2 -> look.waiting(1);
      case 3 -> look.years();
      case 4 -> look.plans();
      case 5 -> look.lessons();
      case 6 -> look.chances();
      default -> look.sheets();
    }
    return Arrays.copyOf(look.seen, look.many);
  }

  private void see(long answer) {
    seen[many] = answer;
    many++;
  }

  private void people() {
    for (int what = 0; what < 8; what++) {
      see(x.count(what));
    }
    for (int person = 0; person < 10; person++) {
      for (int what = 0; what < 3; what++) {
        see(x.person(person, what));
      }
      see(x.age(person, 50));
      see(x.age(person, 99));
    }
    see(x.fault());
    for (int bytes = x.count(1); bytes > 0; bytes--) {
      see(x.undo());
      see(x.fault());
    }
  }

  private void waiting(int what) {
    for (int year = 0; year < 200; year++) {
      see(x.waits(year, what));
    }
  }

  private void years() {
    for (int letter = 0; letter < 12; letter++) {
      see(x.opened(letter));
      see(x.written(letter));
    }
    for (int person = 0; person < 10; person++) {
      for (int year = 9; year < 200; year += 10) {
        see(x.known(year, person));
      }
      for (int word = 0; word < 8; word++) {
        see(x.learned(person, word));
      }
    }
    see(x.sealed());
    see(x.loud(0));
    see(x.loud(1));
    see(x.tooSoon());
  }

  private void plans() {
    for (int person = 0; person < 10; person++) {
      for (int word = 0; word < 8; word++) {
        see(x.trust(word, person));
        for (int what = 0; what < 3; what++) {
          see(x.send(word, person, what));
        }
      }
    }
  }

  private void lessons() {
    for (int person = 0; person < 10; person++) {
      for (int word = 0; word < 8; word++) {
        see(x.teach(person, 1 << word, 40));
        see(x.teach(person, 1 << word, 99));
      }
      see(x.teach(person, 3, 99));
    }
    // Of who is not there, too: what it knows of itself tells only when it is replaced.
    for (int person = 0; person < 10; person++) {
      see(x.knows(person, 0));
    }
    see(x.forget());
    for (int left = x.count(2); left > 0; left--) {
      see(x.back());
    }
  }

  private void chances() {
    for (int letter = 0; letter < 12; letter++) {
      see(x.said(letter));
    }
    see(x.forged());
    for (int person = 0; person < 10; person++) {
      for (int word = 0; word < 8; word++) {
        see(x.chance(5, person, word, 0));
        see(x.chance(5, person, word, 1));
      }
    }
    for (int seed = 0; seed < 8; seed++) {
      see(x.drawn(seed, 8));
    }
    see(x.digest());
  }

  private void sheets() {
    for (int s = 0; s < 4; s++) {
      int form = formOf(s);
      see(form);
      for (int i = 0; i < 48; i++) {
        see(x.get(s, form, i));
      }
      see(x.lose(s));
    }
  }

  /** 3, if it is lost. */
  private int formOf(int s) {
    for (int form = 0; form < 3; form++) {
      // A finding that is none of get(), so that count(8) tells what get() found.
      x.sheet(s, form, -1);
      x.get(s, form, 0);
      int finding = x.count(8);
      if (finding == 2 || finding == 5) {
        return form;
      }
    }
    return 3;
  }
}
