import java.lang.reflect.Constructor;
import java.lang.reflect.Field;
import java.lang.reflect.Method;
import java.lang.reflect.Modifier;
import java.nio.file.Files;
import java.nio.file.Path;
import java.util.Set;
import java.util.TreeSet;
import java.util.regex.Pattern;

/** The face is the document's and no more; the source keeps to the rules that can be seen so. */
public final class FaceTest {
  private static final Due due = new Due();
  private static final String[] FACE = {
      "int type(int)", "int wipe()", "int undo()", "int fault()", "int person(int,int)", "int knows(int,int)",
      "int letter(int,int,int,int,int)", "int back()", "int read(int)", "int age(int,int)", "int opened(int)",
      "int written(int)", "int waits(int,int)", "int known(int,int)", "int learned(int,int)", "int sealed()",
      "int loud(int)", "int tooSoon()", "int send(int,int,int)", "int trust(int,int)", "int teach(int,int,int)",
      "int done(int,int,int,int)", "int forget()", "int said(int)", "int forged()", "long chance(int,int,int,int)",
      "int drawn(int,int)", "int sheet(int,int,int)", "int lose(int)", "int put(int,int,int,int)",
      "int get(int,int,int)", "int copy(int,int,int,int,int)", "int write(int)", "int count(int)", "long digest()"};

  public static void main(String[] args) throws Exception {
    methods();
    constants();
    constructors();
    classesInside();
    source();
    callsMakeNothing();
    due.end();
  }

  private static void methods() {
    Set<String> want = new TreeSet<>();
    Set<String> names = new TreeSet<>();
    for (String one : FACE) {
      want.add("public " + one);
      names.add(one.substring(one.indexOf(' ') + 1, one.indexOf('(')));
    }
    Set<String> got = new TreeSet<>();
    for (Method m : AgeLetters.class.getDeclaredMethods()) {
      if (Modifier.isPrivate(m.getModifiers())) {
        due.isTrue("private " + m.getName() + " bears no public name", !names.contains(m.getName()));
      } else {
        got.add(m.toString().replace("AgeLetters.", ""));
      }
    }
    due.isTrue("methods are " + want + ", not " + got, want.equals(got));
    due.isTrue("the class is public and final", AgeLetters.class.getModifiers() == (Modifier.PUBLIC | Modifier.FINAL));
  }

  private static void constants() throws Exception {
    Set<String> seen = new TreeSet<>();
    for (Field f : AgeLetters.class.getDeclaredFields()) {
      boolean isStatic = Modifier.isStatic(f.getModifiers());
      due.isTrue(f.getName() + " is final, if static", !isStatic || Modifier.isFinal(f.getModifiers()));
      if (!Modifier.isPrivate(f.getModifiers())) {
        seen.add(f.toString() + " " + f.getInt(null));
      }
    }
    String head = "public static final int AgeLetters.";
    Set<String> want = new TreeSet<>(Set.of(head + "NONE -1", head + "BAD -2", head + "NOT -3", head + "FULL -4"));
    due.isTrue("constants are " + want + ", not " + seen, want.equals(seen));
  }

  private static void constructors() {
    Constructor<?>[] all = AgeLetters.class.getDeclaredConstructors();
    due.is("constructors", all.length, 1);
    due.isTrue("public AgeLetters()", all[0].toString().equals("public AgeLetters()"));
  }

  private static void classesInside() {
    for (Class<?> c : AgeLetters.class.getDeclaredClasses()) {
      due.isTrue(c.getName() + " is static", Modifier.isStatic(c.getModifiers()));
      due.isTrue(c.getName() + " is not public", !Modifier.isPublic(c.getModifiers()));
      due.isTrue(c.getName() + " has at most 20 fields", c.getDeclaredFields().length <= 20);
    }
  }

  private static void source() throws Exception {
    String text = Files.readString(Path.of("src/main/java/AgeLetters.java"));
    String code = text.replaceAll("(?s)/\\*.*?\\*/", " ").replaceAll("//[^\n]*", " ");
    String[] ruledOut = {
        "\\bthrow\\b", "\\btry\\b", "\\bcatch\\b", "\\bsynchronized\\b", "\\bassert\\b", "->", "::",
        "\\bpackage\\b", "\\bimport (?!java\\.util\\.Arrays;)", "Exact\\b", "\\bRandom\\b",
        "\\bSystem\\.(?!arraycopy)", "\\bThread\\b", "\\bequals\\b", "\\bhashCode\\b", "\\btoString\\b", "\\bstatic \\{",
        "\\b(Integer|Long)\\.[A-Z]"};
    for (String one : ruledOut) {
      due.isTrue("no " + one, !Pattern.compile(one).matcher(code).find());
    }
  }

  /** All calls of a run live in one room, so none of them may make an object. */
  private static void callsMakeNothing() {
    com.sun.management.ThreadMXBean room =
        (com.sun.management.ThreadMXBean) java.lang.management.ManagementFactory.getThreadMXBean();
    long thread = Thread.currentThread().getId();
    AgeLetters[] some = {new AgeLetters(), new AgeLetters()};
    long made = 0;
    for (AgeLetters x : some) {
      long ahead = room.getThreadAllocatedBytes(thread);
      callAll(x);
      made = room.getThreadAllocatedBytes(thread) - ahead;
    }
    // Of the second one, since the first may load classes.
    due.isTrue("calls made " + made + " bytes", made < 2000);
  }

  private static void callAll(AgeLetters x) {
    for (int i = 0; i < 59; i++) {
      x.type(i % 6 == 5 ? ';' : i % 6 < 4 ? '1' + i % 7 : i % 4 == 0 ? 'e' : 'o');
    }
    for (int i = 0; i < 12; i++) {
      x.knows(i % 10, 7);
      x.letter(i % 10, (i + 3) % 10, 30 + i, i % 4, i % 3 - 1);
      x.done(i, i % 10, i % 8, i % 2);
      x.sheet(i % 4, i % 3, 4 * i);
      x.put(i % 4, i % 3, 1, i);
      x.get(i % 4, i % 3, 1);
      x.copy(i % 4, 0, i % 4, 1, 2);
      x.write(i % 4);
      x.read(i % 4);
      x.drawn(i, 5);
    }
    x.digest();
    x.forget();
    x.back();
    x.undo();
    x.lose(0);
    x.wipe();
  }
}
