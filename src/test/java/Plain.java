import java.math.BigInteger;
import java.util.ArrayList;
import java.util.List;

/**
 * The document once more, as plainly as can be: every year is lived, every state behind a year is
 * kept, every plan is tried. Slow, and written apart from the class, to be held against it.
 */
final class Plain {
  static final int NONE = -1, BAD = -2, NOT = -3, FULL = -4;
  static final long LONG_BAD = Long.MIN_VALUE + 2;

  record Person(int born, int end, char kind) {}

  record Letter(int writer, int reader, int year, int word, int needed) {}

  record Deed(int year, int person, int word, boolean is) {}

  final StringBuilder text = new StringBuilder();
  final int[] own = new int[10];
  final List<Letter> letters = new ArrayList<>();
  final List<Deed> deeds = new ArrayList<>();
  final int[][] sheets = new int[4][];
  final int[] forms = new int[4];
  int finding = 0;

  /** All that came of the years, for some people, words and letters. */
  static final class Run {
    final int n;
    final int m;
    final int[] openedIn;
    final boolean[] written;
    final boolean[][] waiting;
    final boolean[][] openedBy;
    /** By year, person, word. */
    final boolean[][][] knew;
    final boolean[][] own;

    Run(List<Person> people, boolean[] forging, boolean[][] own, List<Letter> letters) {
      n = people.size();
      m = letters.size();
      this.own = own;
      openedIn = new int[m];
      java.util.Arrays.fill(openedIn, NONE);
      written = new boolean[m];
      waiting = new boolean[200][];
      openedBy = new boolean[200][];
      knew = new boolean[200][][];
      boolean[][] knows = new boolean[n][];
      for (int p = 0; p < n; p++) {
        knows[p] = own[p].clone();
      }
      boolean[] waits = new boolean[m];
      boolean[] opened = new boolean[m];
      int[] told = new int[m];
      for (int year = 0; year < 200; year++) {
        for (int l = 0; l < m; l++) {
          Letter letter = letters.get(l);
          if (letter.year != year || letter.writer >= n) {
            continue;
          }
          Person writer = people.get(letter.writer);
          if (lives(writer, year) && knows[letter.writer][letter.word]) {
            written[l] = true;
            waits[l] = true;
            told[l] = year - writer.born + (forging[letter.writer] ? 5 : 0);
          }
        }
        for (int l = 0; l < m; l++) {
          Letter letter = letters.get(l);
          if (!waits[l] || letter.reader >= n) {
            continue;
          }
          Person reader = people.get(letter.reader);
          int age = year - reader.born + (forging[letter.reader] ? 5 : 0);
          if (!lives(reader, year) || age < told[l]) {
            continue;
          }
          if (letter.needed != NONE && !knows[letter.reader][letter.needed]) {
            continue;
          }
          waits[l] = false;
          opened[l] = true;
          openedIn[l] = year;
          boolean already = knows[letter.reader][letter.word];
          knows[letter.reader][letter.word] = true;
          if (reader.kind == 'e') {
            for (int p = 0; p < n; p++) {
              if (p != letter.reader && lives(people.get(p), year)) {
                knows[p][letter.word] = true;
              }
            }
            knows[letter.reader][letter.word] = already;
          }
        }
        waiting[year] = waits.clone();
        openedBy[year] = opened.clone();
        knew[year] = new boolean[n][];
        for (int p = 0; p < n; p++) {
          knew[year][p] = knows[p].clone();
        }
      }
    }

    static boolean lives(Person person, int year) {
      return person.born <= year && year - person.born <= person.end;
    }

    int learned(int person, int word) {
      if (own[person][word]) {
        return 0;
      }
      for (int year = 0; year < 200; year++) {
        if (knew[year][person][word]) {
          return year;
        }
      }
      return NONE;
    }

    boolean comesOut(List<Deed> deeds) {
      for (Deed deed : deeds) {
        boolean did = deed.person < n && knew[deed.year][deed.person][deed.word];
        if (did != deed.is) {
          return false;
        }
      }
      return true;
    }
  }

  static int bits(boolean[] flags) {
    int sum = 0;
    for (int i = 0; i < flags.length; i++) {
      sum += flags[i] ? 1 << i : 0;
    }
    return sum;
  }

  static boolean within(int number, int least, int most) {
    return least <= number && number <= most;
  }

  boolean there(int person) {
    return within(person, 0, people().size() - 1);
  }

  int find(int number) {
    finding = number;
    return -10 - number;
  }

  // ---- the people

  int fault() {
    String s = text.toString();
    if (s.isEmpty()) {
      return NONE;
    }
    int at = 0;
    for (int person = 0; ; person++) {
      if (person == 10 && at < s.length()) {
        return at;
      }
      for (int k = 0; k < 4; k++, at++) {
        if (at == s.length() || s.charAt(at) < '0' || s.charAt(at) > '9') {
          return at;
        }
      }
      if (s.substring(at - 2, at).equals("00")) {
        return at - 1;
      }
      if (at == s.length() || "oef".indexOf(s.charAt(at)) < 0) {
        return at;
      }
      at++;
      if (at == s.length()) {
        return NONE;
      }
      if (s.charAt(at) != ';') {
        return at;
      }
      at++;
    }
  }

  List<Person> people() {
    List<Person> people = new ArrayList<>();
    if (fault() != NONE || text.length() == 0) {
      return people;
    }
    for (String one : text.toString().split(";")) {
      people.add(new Person(Integer.parseInt(one.substring(0, 2)), Integer.parseInt(one.substring(2, 4)), one.charAt(4)));
    }
    return people;
  }

  boolean[] forging() {
    boolean[] forging = new boolean[10];
    List<Person> people = people();
    for (int p = 0; p < people.size(); p++) {
      forging[p] = people.get(p).kind == 'f';
    }
    return forging;
  }

  boolean[][] ownWords() {
    boolean[][] words = new boolean[10][8];
    for (int p = 0; p < 10; p++) {
      for (int w = 0; w < 8; w++) {
        words[p][w] = (own[p] & (1 << w)) != 0;
      }
    }
    return words;
  }

  Run run() {
    return new Run(people(), forging(), ownWords(), letters);
  }

  int type(int b) {
    if (!within(b, 0, 255)) {
      return BAD;
    }
    if (text.length() == 59) {
      return FULL;
    }
    text.append((char) b);
    return text.length();
  }

  int wipe() {
    int had = text.length();
    text.setLength(0);
    return had;
  }

  int undo() {
    if (text.length() == 0) {
      return NOT;
    }
    text.setLength(text.length() - 1);
    return text.length();
  }

  int person(int person, int what) {
    if (!there(person) || !within(what, 0, 2)) {
      return BAD;
    }
    Person p = people().get(person);
    return what == 0 ? p.born : what == 1 ? p.end : "oef".indexOf(p.kind);
  }

  int knows(int person, int words) {
    if (!within(person, 0, 9) || !within(words, 0, 255)) {
      return BAD;
    }
    int were = own[person];
    own[person] = words;
    return were;
  }

  int letter(int writer, int reader, int year, int word, int needed) {
    boolean well = within(writer, 0, 9) && within(reader, 0, 9) && writer != reader
        && within(year, 0, 199) && within(word, 0, 7) && within(needed, -1, 7);
    if (!well) {
      return BAD;
    }
    if (letters.size() == 12) {
      return FULL;
    }
    letters.add(new Letter(writer, reader, year, word, needed));
    return letters.size();
  }

  int back() {
    if (letters.isEmpty()) {
      return NOT;
    }
    letters.remove(letters.size() - 1);
    return letters.size();
  }

  int read(int s) {
    if (!within(s, 0, 3)) {
      return BAD;
    }
    if (sheets[s] == null) {
      return find(1);
    }
    int took = 0;
    for (int k = 0; k < sheets[s].length / 5; k++) {
      int[] i = sheets[s];
      if (letter(i[5 * k], i[5 * k + 1], i[5 * k + 2], i[5 * k + 3], i[5 * k + 4]) < 0) {
        return took;
      }
      took++;
    }
    return took;
  }

  // ---- years

  int age(int person, int year) {
    if (!there(person) || !within(year, 0, 199)) {
      return BAD;
    }
    Person p = people().get(person);
    return Run.lives(p, year) ? year - p.born + (p.kind == 'f' ? 5 : 0) : NONE;
  }

  int opened(int letter) {
    return within(letter, 0, letters.size() - 1) ? run().openedIn[letter] : BAD;
  }

  int written(int letter) {
    return within(letter, 0, letters.size() - 1) ? run().written[letter] ? 1 : 0 : BAD;
  }

  int waits(int year, int what) {
    if (!within(year, 0, 199) || !within(what, 0, 1)) {
      return BAD;
    }
    return bits(what == 0 ? run().waiting[year] : run().openedBy[year]);
  }

  int known(int year, int person) {
    return within(year, 0, 199) && there(person) ? bits(run().knew[year][person]) : BAD;
  }

  int learned(int person, int word) {
    return there(person) && within(word, 0, 7) ? run().learned(person, word) : BAD;
  }

  int sealed() {
    return bits(run().waiting[199]);
  }

  int loud(int what) {
    if (!within(what, 0, 1)) {
      return BAD;
    }
    int[] many = new int[200];
    for (int year : run().openedIn) {
      if (year != NONE) {
        many[year]++;
      }
    }
    int best = 0;
    for (int year = 0; year < 200; year++) {
      best = many[year] > many[best] ? year : best;
    }
    return many[best] == 0 ? NONE : what == 0 ? best : many[best];
  }

  int tooSoon() {
    int sealed = sealed();
    int sum = 0;
    for (int l = 0; l < letters.size(); l++) {
      int reader = letters.get(l).reader;
      if ((sealed & (1 << l)) == 0 || !there(reader)) {
        continue;
      }
      List<Person> people = people();
      Person p = people.get(reader);
      people.set(reader, new Person(p.born, p.end + 1, p.kind));
      if (new Run(people, forging(), ownWords(), letters).openedIn[l] != NONE) {
        sum += 1 << l;
      }
    }
    return sum;
  }

  // ---- plans

  int send(int word, int person, int what) {
    if (!within(word, 0, 7) || !there(person) || !within(what, 0, 2)) {
      return BAD;
    }
    int without = run().learned(person, word);
    int[] best = null;
    for (int writer = 0; writer < people().size(); writer++) {
      for (int year = 0; year < 200 && writer != person; year++) {
        List<Letter> more = new ArrayList<>(letters);
        more.add(new Letter(writer, person, year, word, NONE));
        int with = new Run(people(), forging(), ownWords(), more).learned(person, word);
        boolean earlier = with != NONE && (without == NONE || with < without);
        if (earlier && (best == null || with < best[0])) {
          best = new int[] {with, writer, year};
        }
      }
    }
    return best == null ? NONE : best[what];
  }

  int trust(int word, int person) {
    if (!within(word, 0, 7) || !there(person)) {
      return BAD;
    }
    int best = NONE;
    for (int group = 0; group < 1 << people().size(); group++) {
      int size = Integer.bitCount(group);
      if (size > 3 || (group & (1 << person)) != 0 || best != NONE && size >= Integer.bitCount(best)) {
        continue;
      }
      boolean[][] words = ownWords();
      for (int p = 0; p < 10; p++) {
        words[p][word] |= (group & (1 << p)) != 0;
      }
      if (new Run(people(), forging(), words, letters).knew[199][person][word]) {
        best = group;
      }
    }
    return best;
  }

  int teach(int person, int words, int age) {
    if (!there(person) || !within(words, 0, 255) || !within(age, 0, 99)) {
      return BAD;
    }
    int year = people().get(person).born + age;
    int best = NONE;
    for (int group = 0; group < 1 << letters.size(); group++) {
      if (best != NONE && Integer.bitCount(group) >= Integer.bitCount(best)) {
        continue;
      }
      List<Letter> some = new ArrayList<>();
      for (int l = 0; l < letters.size(); l++) {
        if ((group & (1 << l)) != 0) {
          some.add(letters.get(l));
        }
      }
      int knows = bits(new Run(people(), forging(), ownWords(), some).knew[year][person]);
      if ((knows & words) == words) {
        best = group;
      }
    }
    return best;
  }

  // ---- done, chance

  int done(int year, int person, int word, int is) {
    if (!within(year, 0, 199) || !within(person, 0, 9) || !within(word, 0, 7) || !within(is, 0, 1)) {
      return BAD;
    }
    if (deeds.size() == 8) {
      return FULL;
    }
    deeds.add(new Deed(year, person, word, is == 1));
    return deeds.size();
  }

  int forget() {
    int had = deeds.size();
    deeds.clear();
    return had;
  }

  int said(int letter) {
    if (!within(letter, 0, letters.size() - 1)) {
      return BAD;
    }
    int sum = 0;
    Letter was = letters.get(letter);
    for (int word = 0; word < 8; word++) {
      List<Letter> others = new ArrayList<>(letters);
      others.set(letter, new Letter(was.writer, was.reader, was.year, word, was.needed));
      if (new Run(people(), forging(), ownWords(), others).comesOut(deeds)) {
        sum += 1 << word;
      }
    }
    return sum;
  }

  int forged() {
    int sum = 0;
    for (int who = 0; who <= 10; who++) {
      if (who < 10 && !there(who)) {
        continue;
      }
      boolean[] forging = new boolean[11];
      forging[who] = true;
      if (new Run(people(), forging, ownWords(), letters).comesOut(deeds)) {
        sum += 1 << who;
      }
    }
    return sum;
  }

  List<Person> shortened(int who) {
    List<Person> people = people();
    for (int p = 0; p < people.size(); p++) {
      Person one = people.get(p);
      if ((who & (1 << p)) != 0) {
        people.set(p, new Person(one.born, one.end > 11 ? one.end - 10 : 1, one.kind));
      }
    }
    return people;
  }

  long chance(int c, int person, int word, int what) {
    if (!within(c, 0, 16) || !there(person) || !within(word, 0, 7) || !within(what, 0, 1)) {
      return LONG_BAD;
    }
    int n = people().size();
    BigInteger above = BigInteger.ZERO;
    BigInteger below = BigInteger.valueOf(16).pow(n);
    for (int who = 0; who < 1 << n; who++) {
      if (new Run(shortened(who), forging(), ownWords(), letters).knew[199][person][word]) {
        int many = Integer.bitCount(who);
        above = above.add(BigInteger.valueOf(c).pow(many).multiply(BigInteger.valueOf(16 - c).pow(n - many)));
      }
    }
    BigInteger by = above.gcd(below);
    return (what == 0 ? above : below).divide(by).longValueExact();
  }

  int drawn(int seed, int c) {
    if (!within(c, 0, 16)) {
      return BAD;
    }
    int who = 0;
    int lot = seed;
    for (int p = 0; p < people().size(); p++) {
      lot = lot * 1103515245 + 12345;
      int upper = (lot >> 16) & 0xFFFF;
      who |= upper % 16 < c ? 1 << p : 0;
    }
    return bits(new Run(shortened(who), forging(), ownWords(), letters).openedBy[199]);
  }

  // ---- sheets

  static int cut(int form, int v) {
    return form == 0 ? (byte) v : form == 1 ? (short) v : v;
  }

  int sheet(int s, int form, int n) {
    if (!within(s, 0, 3) || !within(form, 0, 2) || n > 48) {
      return BAD;
    }
    if (n < 0) {
      return find(5);
    }
    sheets[s] = new int[n];
    forms[s] = form;
    return n;
  }

  int lose(int s) {
    if (!within(s, 0, 3)) {
      return BAD;
    }
    if (sheets[s] == null) {
      return find(1);
    }
    int had = sheets[s].length;
    sheets[s] = null;
    return had;
  }

  private int findingAt(int s, int form, int i) {
    return sheets[s] == null ? 1 : forms[s] != form ? 3 : within(i, 0, sheets[s].length - 1) ? 0 : 2;
  }

  int put(int s, int form, int i, int v) {
    if (!within(s, 0, 3) || !within(form, 0, 2)) {
      return BAD;
    }
    int number = findingAt(s, form, i);
    if (number != 0) {
      return find(number);
    }
    sheets[s][i] = cut(form, v);
    return 1;
  }

  int get(int s, int form, int i) {
    if (!within(s, 0, 3) || !within(form, 0, 2)) {
      return Integer.MIN_VALUE;
    }
    int number = findingAt(s, form, i);
    if (number != 0) {
      finding = number;
      return Integer.MIN_VALUE;
    }
    return sheets[s][i];
  }

  int copy(int s, int i, int t, int j, int n) {
    if (!within(s, 0, 3) || !within(t, 0, 3)) {
      return BAD;
    }
    if (sheets[s] == null || sheets[t] == null) {
      return find(1);
    }
    if (forms[s] != forms[t]) {
      return find(4);
    }
    if (i < 0 || j < 0 || n < 0 || (long) i + n > sheets[s].length || (long) j + n > sheets[t].length) {
      return find(2);
    }
    int[] were = sheets[s].clone();
    for (int k = 0; k < n; k++) {
      sheets[t][j + k] = were[i + k];
    }
    return 1;
  }

  int write(int s) {
    if (!within(s, 0, 3)) {
      return BAD;
    }
    if (sheets[s] == null) {
      return find(1);
    }
    Run run = run();
    int many = 0;
    while (many < sheets[s].length && many < letters.size()) {
      sheets[s][many] = cut(forms[s], run.openedIn[many]);
      many++;
    }
    return many;
  }

  int count(int what) {
    switch (what) {
      case 0: return people().size();
      case 1: return text.length();
      case 2: return letters.size();
      case 3: return Integer.bitCount(bits(run().written));
      case 4: return Integer.bitCount(bits(run().openedBy[199]));
      case 5: return deeds.size();
      case 6: return (int) people().stream().filter(p -> p.kind == 'e').count();
      case 7: {
        int sum = 0;
        for (int p = 0; p < people().size(); p++) {
          sum += Integer.bitCount(own[p]);
        }
        return sum;
      }
      case 8: return finding;
      default: return BAD;
    }
  }

  long digest() {
    List<Long> all = new ArrayList<>();
    for (int what = 0; what <= 7; what++) {
      all.add((long) count(what));
    }
    all.add((long) fault());
    for (int p = 0; p < people().size(); p++) {
      for (int what = 0; what <= 2; what++) {
        all.add((long) person(p, what));
      }
      all.add((long) known(50, p));
      all.add((long) known(199, p));
      all.add((long) learned(p, 0));
      all.add((long) age(p, 40));
    }
    for (int l = 0; l < letters.size(); l++) {
      all.add((long) opened(l));
      all.add((long) written(l));
      all.add((long) said(l));
    }
    all.add((long) sealed());
    all.add((long) loud(0));
    all.add((long) loud(1));
    all.add((long) tooSoon());
    all.add((long) waits(60, 0));
    all.add((long) waits(60, 1));
    for (int what = 0; what <= 2; what++) {
      all.add((long) send(0, 0, what));
    }
    all.add((long) trust(0, 0));
    all.add((long) teach(0, 1, 30));
    all.add((long) forged());
    all.add(chance(4, 0, 0, 0));
    all.add(chance(4, 0, 0, 1));
    all.add((long) drawn(7, 4));
    long h = 17;
    for (long one : all) {
      h = 31 * h + one;
    }
    return h;
  }
}
