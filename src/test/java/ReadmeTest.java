import java.lang.reflect.Method;
import java.nio.file.Files;
import java.nio.file.Path;
import java.util.Map;
import java.util.Random;
import java.util.Set;
import java.util.TreeMap;
import java.util.TreeSet;
import java.util.regex.Matcher;
import java.util.regex.Pattern;

/** What README.md says of answers holds: its examples, and its table of answers below 0. */
public final class ReadmeTest {
  private static final Due due = new Due();
  private static final Pattern NEW = Pattern.compile("AgeLetters x = new AgeLetters\\(\\);");
  private static final Pattern TEXT = Pattern.compile("for \\(char c : \"([^\"]*)\"");
  private static final Pattern CALL = Pattern.compile("x\\.(\\w+)\\(([^)]*)\\);\\s*// -> (-?\\d+).*");
  private static final Pattern ROW = Pattern.compile("\\| `(\\w+)` \\|(.*)\\|");
  private static final String LEAST_LONG_AND_2 = "the least long and 2 more";
  private static final String LEAST_INT = "the least int";
  private static final String ITEM = "any item below 0";
  private static final String LONG = "any long";
  private static final Map<Long, String> NAMES = Map.of(-1L, "NONE", -2L, "BAD", -3L, "NOT", -4L, "FULL",
      -11L, "NULL", -12L, "INDEX", -13L, "CAST", -14L, "STORE", -15L, "SIZE");
  private static final int[] NUMBERS = {Integer.MIN_VALUE, -1, 0, 0, 1, 1, 2, 3, 7, 8, 10, 12, 20, 48, 200, Integer.MAX_VALUE};

  private static final Map<String, Method> methods = new TreeMap<>();

  public static void main(String[] args) throws Exception {
    for (Method m : AgeLetters.class.getMethods()) {
      if (m.getDeclaringClass() == AgeLetters.class) {
        methods.put(m.getName(), m);
      }
    }
    String page = Files.readString(Path.of("README.md"));
    examples(page);
    belowZero(page);
    chanceOfAll();
    writtenBytes();
    due.end();
  }

  private static void examples(String page) throws Exception {
    AgeLetters x = null;
    int many = 0;
    for (String line : page.split("\n")) {
      if (NEW.matcher(line).find()) {
        x = new AgeLetters();
      }
      Matcher text = TEXT.matcher(line);
      if (text.find()) {
        Due.typeAll(x, text.group(1));
      }
      Matcher call = CALL.matcher(line);
      if (call.matches()) {
        due.is(line, answer(x, call.group(1), numbers(call.group(2))), Long.parseLong(call.group(3)));
        many++;
      }
    }
    due.isTrue("there are examples: " + many, many > 20);
  }

  private static Object[] numbers(String told) {
    if (told.isBlank()) {
      return new Object[0];
    }
    String[] parts = told.split(",");
    Object[] numbers = new Object[parts.length];
    for (int i = 0; i < parts.length; i++) {
      numbers[i] = Integer.parseInt(parts[i].trim());
    }
    return numbers;
  }

  private static long answer(AgeLetters x, String call, Object[] numbers) throws Exception {
    return ((Number) methods.get(call).invoke(x, numbers)).longValue();
  }

  // ---- the table

  private static Map<String, Set<String>> table(String page) {
    Map<String, Set<String>> table = new TreeMap<>();
    for (String line : page.split("\n")) {
      Matcher row = ROW.matcher(line);
      if (row.matches()) {
        Set<String> names = new TreeSet<>();
        for (String name : row.group(2).replace("`", "").split("[,;]")) {
          if (!name.isBlank()) {
            names.add(name.trim());
          }
        }
        table.put(row.group(1), names);
      }
    }
    return table;
  }

  /** Random calls on many objects: each answer below 0 is in the table, and each in the table comes. */
  private static void belowZero(String page) throws Exception {
    Map<String, Set<String>> told = table(page);
    due.isTrue("the table has the calls of the face", told.keySet().equals(methods.keySet()));
    Map<String, Set<String>> seen = new TreeMap<>();
    for (String call : methods.keySet()) {
      seen.put(call, new TreeSet<>());
    }
    Random random = new Random(11);
    for (int run = 0; run < 400; run++) {
      AgeLetters x = begun(run, random);
      for (int i = 0; i < 400; i++) {
        String call = methods.keySet().toArray(new String[0])[random.nextInt(methods.size())];
        Object[] numbers = new Object[methods.get(call).getParameterCount()];
        for (int k = 0; k < numbers.length; k++) {
          numbers[k] = NUMBERS[random.nextInt(NUMBERS.length)];
        }
        long answer = answer(x, call, numbers);
        if (answer < 0) {
          seen.get(call).add(named(call, answer));
        }
      }
    }
    for (String call : methods.keySet()) {
      due.isTrue(call + " answers below 0 " + seen.get(call) + ", README.md has " + told.get(call),
          seen.get(call).equals(told.get(call)));
    }
  }

  /** People, words, letters, deeds and sheets, few or as many as there may be. */
  private static AgeLetters begun(int run, Random random) {
    AgeLetters x = Due.of(run % 5 == 0 ? "" : "0070o;2050e;0560f;2029o");
    x.knows(0, 7);
    for (int l = run % 3 * 6; l > 0; l--) {
      x.letter(0, 1 + l % 3, 2 * l + 10, l % 3, -1);
    }
    for (int d = run % 3 * 4; d > 0; d--) {
      x.done(100, d % 4, 0, d % 2);
    }
    for (int s = 0; s < 4; s++) {
      x.sheet(s, random.nextInt(3), random.nextInt(49));
    }
    while (run % 7 == 1 && x.type('x') > 0) {
      x.fault();
    }
    return x;
  }

  private static String named(String call, long answer) {
    switch (call) {
      case "get":
        return answer == Integer.MIN_VALUE ? LEAST_INT : ITEM;
      case "chance":
        return answer == Long.MIN_VALUE + 2 ? LEAST_LONG_AND_2 : "" + answer;
      case "digest":
        return LONG;
      default:
        return NAMES.getOrDefault(answer, "" + answer);
    }
  }

  // ---- other sentences

  /** What is above and below is up to 2^40: ten persons, each of whom must not die early. */
  private static void chanceOfAll() {
    AgeLetters x = Due.of("0030o;0030o;0030o;0030o;0030o;0030o;0030o;0030o;0030o;0030o");
    x.knows(0, 1);
    for (int p = 0; p < 9; p++) {
      x.letter(p, p + 1, 21 + p, 0, -1);
    }
    due.is("above", x.chance(15, 9, 0, 0), 1);
    due.is("below, 2^40", x.chance(15, 9, 0, 1), 1L << 40);
  }

  private static void writtenBytes() {
    AgeLetters x = Due.of("0099o;9999o");
    x.knows(0, 1);
    x.letter(0, 1, 29, 0, -1);
    x.letter(0, 1, 99, 0, -1);
    x.letter(0, 1, 100, 0, -1);
    x.sheet(0, 0, 3);
    due.is("write(0)", x.write(0), 3);
    due.is("in 128", x.get(0, 0, 0), -128);
    due.is("in 198", x.get(0, 0, 1), 198 - 256);
    due.is("item & 255", x.get(0, 0, 1) & 255, x.opened(1));
    due.is("never", x.get(0, 0, 2), AgeLetters.NONE);
  }
}
