import java.util.function.ToLongFunction;

/** What only asks changes nothing, whatever it has to suppose for its answer. */
public final class AsksTest {
  private static final Due due = new Due();

  public static void main(String[] args) {
    people();
    years();
    plans();
    done();
    sheets();
    due.endOf(5, 6, 11, 12, 13, 14, 15, 16, 17, 18, 19, 20, 21, 22, 25, 26, 27, 28, 32, 35, 36);
  }

  /** An elder, one who tells more, one who dies a year too soon; words that go on, and some that do not. */
  private static AgeLetters village() {
    AgeLetters x = Due.of("0070o;2050f;3060e;2029o;1065o");
    x.knows(0, 7);
    x.knows(4, 8);
    x.knows(7, 9);
    x.letter(0, 1, 30, 0, -1);
    x.letter(0, 2, 40, 1, -1);
    x.letter(1, 2, 60, 0, 2);
    x.letter(0, 3, 30, 2, -1);
    x.letter(4, 0, 66, 3, 1);
    x.done(60, 1, 0, 1);
    x.done(20, 2, 0, 0);
    x.sheet(0, 0, 5);
    x.sheet(1, 2, 48);
    for (int i = 0; i < 5; i++) {
      x.put(0, 0, i, 10 + i);
      x.put(1, 2, 43 + i, 1000 + i);
    }
    return x;
  }

  private static void asks(int promise, String call, ToLongFunction<AgeLetters> asked) {
    due.promise(promise, "it tells, and changes nothing");
    AgeLetters x = village();
    x.sheet(0, 0, -1);
    long first = asked.applyAsLong(x);
    due.is(call + " asked again", asked.applyAsLong(x), first);
    due.is(call + " and then count(8)", x.count(8), 5);
    due.isTrue(call + " leaves all as it was", Look.isSame(AsksTest::village, () -> {
      AgeLetters y = village();
      asked.applyAsLong(y);
      return y;
    }));
  }

  private static void people() {
    asks(5, "fault()", x -> x.fault());
    asks(6, "person(4, 1)", x -> x.person(4, 1));
  }

  private static void years() {
    asks(11, "age(1, 30)", x -> x.age(1, 30));
    asks(12, "opened(4)", x -> x.opened(4));
    asks(13, "written(0)", x -> x.written(0));
    asks(14, "waits(60, 0)", x -> x.waits(60, 0));
    asks(14, "waits(60, 1)", x -> x.waits(60, 1));
    asks(15, "known(199, 2)", x -> x.known(199, 2));
    asks(16, "learned(2, 0)", x -> x.learned(2, 0));
    asks(17, "sealed()", x -> x.sealed());
    asks(18, "loud(0)", x -> x.loud(0));
    asks(18, "loud(1)", x -> x.loud(1));
    asks(19, "tooSoon()", x -> x.tooSoon());
    due.is("village: tooSoon()", village().tooSoon(), 8);
  }

  private static void plans() {
    asks(20, "send(0, 3, 0)", x -> x.send(0, 3, 0));
    asks(20, "send(3, 2, 1)", x -> x.send(3, 2, 1));
    asks(21, "trust(3, 0)", x -> x.trust(3, 0));
    asks(21, "trust(4, 0)", x -> x.trust(4, 0));
    asks(22, "teach(1, 3, 99)", x -> x.teach(1, 3, 99));
    asks(22, "teach(1, 128, 99)", x -> x.teach(1, 128, 99));
  }

  private static void done() {
    asks(25, "said(0)", x -> x.said(0));
    asks(25, "said(4)", x -> x.said(4));
    asks(26, "forged()", x -> x.forged());
    asks(27, "chance(4, 1, 0, 0)", x -> x.chance(4, 1, 0, 0));
    asks(27, "chance(16, 1, 0, 1)", x -> x.chance(16, 1, 0, 1));
    asks(28, "drawn(7, 16)", x -> x.drawn(7, 16));
  }

  private static void sheets() {
    asks(32, "get(0, 0, 4)", x -> x.get(0, 0, 4));
    asks(32, "get(1, 2, 47)", x -> x.get(1, 2, 47));
    for (int what = 0; what <= 8; what++) {
      int which = what;
      asks(35, "count(" + what + ")", x -> x.count(which));
    }
    asks(36, "digest()", x -> x.digest());
  }
}
