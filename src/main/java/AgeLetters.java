import java.util.Arrays;

/**
 * Letters that open of themselves when their reader is as old as their writer was.
 *
 * <p>All rows are made in the constructor and used again; no call makes an object.
 */
public final class AgeLetters {
    public static final int NONE = -1, BAD = -2, NOT = -3, FULL = -4;

    private static final int YEARS = 200;
    private static final int PERSONS = 10;
    private static final int LETTERS = 12;
    private static final int WORDS = 8;
    private static final int DEEDS = 8;
    private static final int OLDEST_AGE = 99;
    private static final int ELDER = 1;
    private static final int FORGER = 2;
    private static final int FORGED_MORE = 5;
    private static final int MOST_TRUSTED = 3;
    private static final int SIXTEENTHS = 16;
    private static final int SHORTER_BY = 10;

    private static final int SHEETS = 4;
    private static final int FORMS = 3;
    private static final int ITEMS = 48;
    private static final int LETTER_ITEMS = 5;
    private static final int LOST = 1;
    private static final int INDEX = 2;
    private static final int CAST = 3;
    private static final int STORE = 4;
    private static final int SIZE = 5;

    private static final int LEAST_INT = 1 << 31;
    private static final long LEAST_LONG = 1L << 63;

    private final Text text;
    /** The years as they are; lived anew by every call that changes people, words or letters. */
    private final Years lived;
    /** The years as they would be; taken anew from those that are by every call that supposes. */
    private final Years supposed;
    /** The people and letters of the years as they are. */
    private final Folk folk;
    private final Post post;
    private final Deeds deeds;
    private final Row[] rows;
    private int latestFinding;

    public AgeLetters() {
        text = new Text();
        lived = new Years();
        supposed = new Years();
        folk = lived.folk;
        post = lived.post;
        deeds = new Deeds();
        rows = new Row[SHEETS];
        for (int s = 0; s < SHEETS; s++) {
            rows[s] = new Row();
        }
        latestFinding = 0;
    }

    // ---- people, letters

    public int type(int b) {
        if (b < 0 || b > 255) {
            return BAD;
        }
        if (text.length >= Text.MOST) {
            return FULL;
        }
        text.bytes[text.length] = b;
        text.length++;
        takePeople();
        return text.length;
    }

    public int wipe() {
        int had = text.length;
        text.length = 0;
        takePeople();
        return had;
    }

    public int undo() {
        if (text.length == 0) {
            return NOT;
        }
        text.length--;
        takePeople();
        return text.length;
    }

    public int fault() {
        return text.firstFault();
    }

    public int person(int person, int what) {
        if (!folk.isThere(person)) {
            return BAD;
        }
        switch (what) {
            case 0:
                return folk.born[person];
            case 1:
                return folk.end[person];
            case 2:
                return folk.kind[person];
            default:
                return BAD;
        }
    }

    public int knows(int person, int words) {
        if (!isBelow(person, PERSONS) || !isBelow(words, 1 << WORDS)) {
            return BAD;
        }
        int were = folk.own[person];
        folk.own[person] = words;
        lived.live();
        return were;
    }

    public int letter(int writer, int reader, int year, int word, int needed) {
        int answer = takeLetter(writer, reader, year, word, needed);
        if (answer > 0) {
            lived.live();
        }
        return answer;
    }

    public int back() {
        if (post.size == 0) {
            return NOT;
        }
        post.size--;
        lived.live();
        return post.size;
    }

    public int read(int s) {
        if (!isBelow(s, SHEETS)) {
            return BAD;
        }
        Row row = rows[s];
        if (row.isLost) {
            return find(LOST);
        }
        int took = 0;
        for (int at = 0; at + LETTER_ITEMS <= row.size; at += LETTER_ITEMS) {
            int[] items = row.items;
            if (takeLetter(items[at], items[at + 1], items[at + 2], items[at + 3], items[at + 4]) < 0) {
                break;
            }
            took++;
        }
        lived.live();
        return took;
    }

    private void takePeople() {
        text.tellPeople(folk);
        lived.live();
    }

    /** Does not live the years anew, so that a sheet of letters lives them but once. */
    private int takeLetter(int writer, int reader, int year, int word, int needed) {
        if (!isBelow(writer, PERSONS) || !isBelow(reader, PERSONS) || writer == reader) {
            return BAD;
        }
        if (!isBelow(year, YEARS) || !isBelow(word, WORDS)) {
            return BAD;
        }
        if (needed != NONE && !isBelow(needed, WORDS)) {
            return BAD;
        }
        if (post.size >= LETTERS) {
            return FULL;
        }
        post.size++;
        post.setLast(writer, reader, year, word, needed);
        return post.size;
    }

    // ---- years

    public int age(int person, int year) {
        if (!folk.isThere(person) || !isBelow(year, YEARS)) {
            return BAD;
        }
        return folk.lives(person, year) ? folk.toldAge(person, year) : NONE;
    }

    public int opened(int letter) {
        return isBelow(letter, post.size) ? lived.openingYear(letter) : BAD;
    }

    public int written(int letter) {
        return isBelow(letter, post.size) ? lived.writtenBits >> letter & 1 : BAD;
    }

    public int waits(int year, int what) {
        if (!isBelow(year, YEARS) || !isBelow(what, 2)) {
            return BAD;
        }
        return what == 0 ? lived.waitingBehind(year) : lived.openedBehind(year);
    }

    public int known(int year, int person) {
        if (!isBelow(year, YEARS) || !folk.isThere(person)) {
            return BAD;
        }
        return lived.wordsBehind(year, person);
    }

    public int learned(int person, int word) {
        if (!folk.isThere(person) || !isBelow(word, WORDS)) {
            return BAD;
        }
        return lived.learningYear(person, word);
    }

    public int sealed() {
        return lived.sealedBits();
    }

    public int loud(int what) {
        if (!isBelow(what, 2)) {
            return BAD;
        }
        if (lived.openedBits == 0) {
            return NONE;
        }
        int year = lived.loudestYear();
        return what == 0 ? year : lived.openedWithin(year);
    }

    public int tooSoon() {
        int sealedOnes = lived.sealedBits();
        int soon = 0;
        supposed.takeFrom(lived);
        for (int letter = 0; letter < post.size; letter++) {
            if ((sealedOnes >> letter & 1) == 1 && opensWithGrace(letter)) {
                soon |= 1 << letter;
            }
        }
        return soon;
    }

    private boolean opensWithGrace(int letter) {
        int reader = post.reader[letter];
        if (!folk.isThere(reader)) {
            return false;
        }
        supposed.folk.end[reader] = folk.end[reader] + 1;
        supposed.live();
        supposed.folk.end[reader] = folk.end[reader];
        return (supposed.openedBits >> letter & 1) == 1;
    }

    // ---- plans

    public int send(int word, int person, int what) {
        if (!isBelow(word, WORDS) || !folk.isThere(person) || !isBelow(what, 3)) {
            return BAD;
        }
        int best = bestSend(word, person);
        if (best == NONE) {
            return NONE;
        }
        if (what == 0) {
            return best / (PERSONS * YEARS);
        }
        return what == 1 ? best / YEARS % PERSONS : best % YEARS;
    }

    /** The year learned, the writer and the year written as one number; NONE. */
    private int bestSend(int word, int person) {
        int without = lived.learningYear(person, word);
        int earliest = without == NONE ? YEARS : without;
        int best = NONE;
        supposed.takeFrom(lived);
        supposed.post.size++;
        for (int writer = 0; writer < folk.count; writer++) {
            // A letter of the earliest year or a later one teaches nothing earlier.
            for (int year = 0; year < earliest; year++) {
                if (writer == person || !lived.couldWrite(writer, word, year)) {
                    continue;
                }
                int learnedThen = learnedBySend(writer, person, year, word, earliest);
                if (learnedThen < earliest) {
                    earliest = learnedThen;
                    best = (learnedThen * PERSONS + writer) * YEARS + year;
                }
            }
        }
        return best;
    }

    /** When the person learns the word by one letter more; the year limit, if not before it. */
    private int learnedBySend(int writer, int person, int year, int word, int limit) {
        supposed.post.setLast(writer, person, year, word, NONE);
        // Till it is opened the letter changes nothing, so there is no need to live those years.
        if (supposed.dueYear(supposed.post.size - 1) >= limit) {
            return limit;
        }
        supposed.live();
        int learnedThen = supposed.learningYear(person, word);
        return learnedThen == NONE ? limit : Math.min(learnedThen, limit);
    }

    public int trust(int word, int person) {
        if (!isBelow(word, WORDS) || !folk.isThere(person)) {
            return BAD;
        }
        supposed.takeFrom(lived);
        for (int size = 0; size <= MOST_TRUSTED; size++) {
            for (int group = 0; group < 1 << folk.count; group++) {
                if (Integer.bitCount(group) == size && (group >> person & 1) == 0
                        && knowsByTrust(group, word, person)) {
                    return group;
                }
            }
        }
        return NONE;
    }

    private boolean knowsByTrust(int group, int word, int person) {
        for (int other = 0; other < folk.count; other++) {
            supposed.folk.own[other] = folk.own[other] | (group >> other & 1) << word;
        }
        supposed.live();
        return (supposed.knownBits[person] >> word & 1) == 1;
    }

    public int teach(int person, int words, int age) {
        if (!folk.isThere(person) || !isBelow(words, 1 << WORDS) || !isBelow(age, OLDEST_AGE + 1)) {
            return BAD;
        }
        int year = folk.born[person] + age;
        // One that cannot help is in no fewest group.
        int helpful = lived.helpfulFor(person, words, year);
        int most = Integer.bitCount(helpful);
        supposed.takeFrom(lived);
        for (int size = 0; size <= most; size++) {
            int group = 0;
            for (int i = 0; i < 1 << most; i++) {
                if (Integer.bitCount(group) == size && teaches(group, person, words, year)) {
                    return group;
                }
                group = nextWithin(group, helpful);
            }
        }
        return NONE;
    }

    private boolean teaches(int group, int person, int words, int year) {
        supposed.awayBits = ~group;
        supposed.live();
        return (supposed.wordsBehind(year, person) & words) == words;
    }

    // ---- done, chance

    public int done(int year, int person, int word, int is) {
        if (!isBelow(year, YEARS) || !isBelow(person, PERSONS) || !isBelow(word, WORDS) || !isBelow(is, 2)) {
            return BAD;
        }
        if (deeds.size >= DEEDS) {
            return FULL;
        }
        deeds.addOne(year, person, word, is);
        return deeds.size;
    }

    public int forget() {
        int had = deeds.size;
        deeds.size = 0;
        return had;
    }

    public int said(int letter) {
        if (!isBelow(letter, post.size)) {
            return BAD;
        }
        int words = 0;
        supposed.takeFrom(lived);
        for (int word = 0; word < WORDS; word++) {
            supposed.post.word[letter] = word;
            supposed.live();
            if (deeds.cameOutIn(supposed)) {
                words |= 1 << word;
            }
        }
        return words;
    }

    public int forged() {
        int who = 0;
        supposed.takeFrom(lived);
        Arrays.fill(supposed.folk.more, 0);
        for (int person = 0; person < folk.count; person++) {
            supposed.folk.more[person] = FORGED_MORE;
            supposed.live();
            supposed.folk.more[person] = 0;
            if (deeds.cameOutIn(supposed)) {
                who |= 1 << person;
            }
        }
        supposed.live();
        return deeds.cameOutIn(supposed) ? who | 1 << PERSONS : who;
    }

    public long chance(int c, int person, int word, int what) {
        if (!isBelow(c, SIXTEENTHS + 1) || !folk.isThere(person) || !isBelow(word, WORDS) || !isBelow(what, 2)) {
            return LEAST_LONG - BAD;
        }
        int involved = lived.involvedIn(lived.helpfulFor(person, 1 << word, YEARS - 1)) | 1 << person;
        long above = weightOfKnowing(c, person, word, involved);
        long below = power(SIXTEENTHS, Integer.bitCount(involved));
        // What is below is a power of two, so halving is all that lowest terms take.
        for (int i = 0; i < 4 * PERSONS && below > 1 && (above & 1) == 0; i++) {
            above >>= 1;
            below >>= 1;
        }
        return what == 0 ? above : below;
    }

    /** Of all that may befall the involved ones; the ends of others change nothing for the person. */
    private long weightOfKnowing(int c, int person, int word, int involved) {
        long sum = 0;
        int many = Integer.bitCount(involved);
        int shorter = 0;
        supposed.takeFrom(lived);
        for (int i = 0; i < 1 << many; i++) {
            int early = Integer.bitCount(shorter);
            long weight = power(c, early) * power(SIXTEENTHS - c, many - early);
            if (weight != 0 && knowsWithShorter(shorter, word, person)) {
                sum += weight;
            }
            shorter = nextWithin(shorter, involved);
        }
        return sum;
    }

    private boolean knowsWithShorter(int shorter, int word, int person) {
        supposed.folk.shorten(folk, shorter);
        supposed.live();
        return (supposed.knownBits[person] >> word & 1) == 1;
    }

    public int drawn(int seed, int c) {
        if (!isBelow(c, SIXTEENTHS + 1)) {
            return BAD;
        }
        int state = seed;
        int shorter = 0;
        for (int person = 0; person < folk.count; person++) {
            state = 1103515245 * state + 12345;
            if ((state >>> 16) % SIXTEENTHS < c) {
                shorter |= 1 << person;
            }
        }
        supposed.takeFrom(lived);
        supposed.folk.shorten(folk, shorter);
        supposed.live();
        return supposed.openedBits;
    }

    // ---- sheets

    public int sheet(int s, int form, int n) {
        if (!isBelow(s, SHEETS) || !isBelow(form, FORMS) || n > ITEMS) {
            return BAD;
        }
        if (n < 0) {
            return find(SIZE);
        }
        rows[s].begin(form, n);
        return n;
    }

    public int lose(int s) {
        if (!isBelow(s, SHEETS)) {
            return BAD;
        }
        if (rows[s].isLost) {
            return find(LOST);
        }
        rows[s].isLost = true;
        return rows[s].size;
    }

    public int put(int s, int form, int i, int v) {
        if (!isBelow(s, SHEETS) || !isBelow(form, FORMS)) {
            return BAD;
        }
        int finding = rows[s].findingAt(form, i);
        if (finding != 0) {
            return find(finding);
        }
        rows[s].setItem(i, v);
        return 1;
    }

    public int get(int s, int form, int i) {
        if (!isBelow(s, SHEETS) || !isBelow(form, FORMS)) {
            return LEAST_INT;
        }
        int finding = rows[s].findingAt(form, i);
        if (finding != 0) {
            latestFinding = finding;
            return LEAST_INT;
        }
        return rows[s].items[i];
    }

    public int copy(int s, int i, int t, int j, int n) {
        if (!isBelow(s, SHEETS) || !isBelow(t, SHEETS)) {
            return BAD;
        }
        Row from = rows[s];
        Row to = rows[t];
        if (from.isLost || to.isLost) {
            return find(LOST);
        }
        if (from.form != to.form) {
            return find(STORE);
        }
        if (!from.hasStretch(i, n) || !to.hasStretch(j, n)) {
            return find(INDEX);
        }
        System.arraycopy(from.items, i, to.items, j, n);
        return 1;
    }

    public int write(int s) {
        if (!isBelow(s, SHEETS)) {
            return BAD;
        }
        Row row = rows[s];
        if (row.isLost) {
            return find(LOST);
        }
        int many = Math.min(row.size, post.size);
        for (int letter = 0; letter < many; letter++) {
            row.setItem(letter, lived.openingYear(letter));
        }
        return many;
    }

    public int count(int what) {
        switch (what) {
            case 0:
                return folk.count;
            case 1:
                return text.length;
            case 2:
                return post.size;
            case 3:
                return Integer.bitCount(lived.writtenBits);
            case 4:
                return Integer.bitCount(lived.openedBits);
            case 5:
                return deeds.size;
            case 6:
                return folk.elders();
            case 7:
                return folk.ownWords();
            case 8:
                return latestFinding;
            default:
                return BAD;
        }
    }

    public long digest() {
        long h = 17;
        for (int what = 0; what < 8; what++) {
            h = 31 * h + count(what);
        }
        h = 31 * h + fault();
        h = mixPersons(h);
        for (int letter = 0; letter < post.size; letter++) {
            h = 31 * h + opened(letter);
            h = 31 * h + written(letter);
            h = 31 * h + said(letter);
        }
        h = 31 * h + sealed();
        h = 31 * h + loud(0);
        h = 31 * h + loud(1);
        h = 31 * h + tooSoon();
        h = 31 * h + waits(60, 0);
        h = 31 * h + waits(60, 1);
        for (int what = 0; what < 3; what++) {
            h = 31 * h + send(0, 0, what);
        }
        h = 31 * h + trust(0, 0);
        h = 31 * h + teach(0, 1, 30);
        h = 31 * h + forged();
        h = 31 * h + chance(4, 0, 0, 0);
        h = 31 * h + chance(4, 0, 0, 1);
        return 31 * h + drawn(7, 4);
    }

    private long mixPersons(long start) {
        long h = start;
        for (int person = 0; person < folk.count; person++) {
            h = 31 * h + folk.born[person];
            h = 31 * h + folk.end[person];
            h = 31 * h + folk.kind[person];
            h = 31 * h + known(50, person);
            h = 31 * h + known(YEARS - 1, person);
            h = 31 * h + learned(person, 0);
            h = 31 * h + age(person, 40);
        }
        return h;
    }

    private int find(int finding) {
        latestFinding = finding;
        return -10 - finding;
    }

    /** The next greater group of some of these bits alone; 0 behind the greatest. */
    private static int nextWithin(int group, int bits) {
        return (group - bits) & bits;
    }

    private static boolean isBelow(int number, int bound) {
        return number >= 0 && number < bound;
    }

    private static long power(int base, int exponent) {
        long product = 1;
        for (int i = 0; i < exponent; i++) {
            product *= base;
        }
        return product;
    }

    /** The bytes that tell the people. */
    private static final class Text {
        /** Ten persons and what stands between them, so that an eleventh never begins. */
        static final int MOST = 59;
        private static final int STRIDE = 6;

        final int[] bytes;
        int length;

        Text() {
            bytes = new int[MOST];
            length = 0;
        }

        int firstFault() {
            for (int place = 0; place < length; place++) {
                if (!goesOn(place)) {
                    return place;
                }
            }
            return length == 0 || length % STRIDE == STRIDE - 1 ? NONE : length;
        }

        private boolean goesOn(int place) {
            int b = bytes[place];
            switch (place % STRIDE) {
                case 3:
                    return isFigure(b) && (b != '0' || bytes[place - 1] != '0');
                case 4:
                    return b == 'o' || b == 'e' || b == 'f';
                case 5:
                    return b == ';';
                default:
                    return isFigure(b);
            }
        }

        void tellPeople(Folk folk) {
            folk.count = firstFault() == NONE ? (length + 1) / STRIDE : 0;
            for (int person = 0; person < folk.count; person++) {
                int place = person * STRIDE;
                int letter = bytes[place + 4];
                folk.born[person] = twoFigures(place);
                folk.end[person] = twoFigures(place + 2);
                folk.kind[person] = letter == 'e' ? ELDER : letter == 'f' ? FORGER : 0;
                folk.more[person] = letter == 'f' ? FORGED_MORE : 0;
            }
        }

        private int twoFigures(int place) {
            return (bytes[place] - '0') * 10 + bytes[place + 1] - '0';
        }

        private static boolean isFigure(int b) {
            return b >= '0' && b <= '9';
        }
    }

    /** The people that there are, and the words known of themselves (also by who is not there yet). */
    private static final class Folk {
        int count;
        final int[] born;
        final int[] end;
        final int[] kind;
        /** By how much the age that is told is more than the true one. */
        final int[] more;
        final int[] own;

        Folk() {
            count = 0;
            born = new int[PERSONS];
            end = new int[PERSONS];
            kind = new int[PERSONS];
            more = new int[PERSONS];
            own = new int[PERSONS];
        }

        boolean isThere(int person) {
            return person >= 0 && person < count;
        }

        boolean lives(int person, int year) {
            return person >= 0 && person < count
                    && year >= born[person] && year <= born[person] + end[person];
        }

        int toldAge(int person, int year) {
            return year - born[person] + more[person];
        }

        int elders() {
            int many = 0;
            for (int person = 0; person < count; person++) {
                many += kind[person] == ELDER ? 1 : 0;
            }
            return many;
        }

        int ownWords() {
            int many = 0;
            for (int person = 0; person < count; person++) {
                many += Integer.bitCount(own[person]);
            }
            return many;
        }

        void shorten(Folk real, int shorter) {
            for (int person = 0; person < count; person++) {
                boolean isShorter = (shorter >> person & 1) == 1;
                end[person] = isShorter ? Math.max(1, real.end[person] - SHORTER_BY) : real.end[person];
            }
        }

        void takeFrom(Folk other) {
            count = other.count;
            System.arraycopy(other.born, 0, born, 0, PERSONS);
            System.arraycopy(other.end, 0, end, 0, PERSONS);
            System.arraycopy(other.kind, 0, kind, 0, PERSONS);
            System.arraycopy(other.more, 0, more, 0, PERSONS);
            System.arraycopy(other.own, 0, own, 0, PERSONS);
        }
    }

    /** The letters as they were told, with room for the one more that send() supposes. */
    private static final class Post {
        static final int ROOM = LETTERS + 1;

        int size;
        final int[] writer;
        final int[] reader;
        final int[] year;
        final int[] word;
        final int[] needed;

        Post() {
            size = 0;
            writer = new int[ROOM];
            reader = new int[ROOM];
            year = new int[ROOM];
            word = new int[ROOM];
            needed = new int[ROOM];
        }

        void setLast(int by, int to, int when, int what, int need) {
            int last = size - 1;
            if (last < 0 || last >= ROOM) {
                return;
            }
            writer[last] = by;
            reader[last] = to;
            year[last] = when;
            word[last] = what;
            needed[last] = need;
        }

        void takeFrom(Post other) {
            size = other.size;
            System.arraycopy(other.writer, 0, writer, 0, ROOM);
            System.arraycopy(other.reader, 0, reader, 0, ROOM);
            System.arraycopy(other.year, 0, year, 0, ROOM);
            System.arraycopy(other.word, 0, word, 0, ROOM);
            System.arraycopy(other.needed, 0, needed, 0, ROOM);
        }
    }

    /** Years 0 to 199 as some people live them with some letters. */
    private static final class Years {
        final Folk folk;
        final Post post;
        /** Letters that are left out, as bits. */
        int awayBits;
        int writtenBits;
        int openedBits;
        /** Only where a letter is opened. */
        final int[] openedIn;
        /** Only where a letter is written. */
        final int[] dueIn;
        final int[] knownBits;
        /** Only where a word is known, but not of itself. */
        final int[] learnedIn;
        /** Only while helpful letters are sought. */
        private final int[] wantedBits;

        Years() {
            folk = new Folk();
            post = new Post();
            awayBits = 0;
            writtenBits = 0;
            openedBits = 0;
            openedIn = new int[Post.ROOM];
            dueIn = new int[Post.ROOM];
            knownBits = new int[PERSONS];
            learnedIn = new int[PERSONS * WORDS];
            wantedBits = new int[PERSONS];
        }

        void takeFrom(Years other) {
            folk.takeFrom(other.folk);
            post.takeFrom(other.post);
            awayBits = other.awayBits;
        }

        void live() {
            writtenBits = 0;
            openedBits = 0;
            System.arraycopy(folk.own, 0, knownBits, 0, PERSONS);
            int year = 0;
            for (int step = 0; step < YEARS && year < YEARS; step++) {
                int openedAhead = openedBits;
                writeThoseOf(year);
                openThoseDue(year);
                // What is learned now may open a letter of a lower number a year later.
                year = openedBits != openedAhead ? year + 1 : nextStir(year);
            }
        }

        private void writeThoseOf(int year) {
            for (int letter = 0; letter < post.size; letter++) {
                if (post.year[letter] == year && (awayBits >> letter & 1) == 0
                        && folk.lives(post.writer[letter], year)
                        && (knownBits[post.writer[letter]] >> post.word[letter] & 1) == 1) {
                    writtenBits |= 1 << letter;
                    dueIn[letter] = dueYear(letter);
                }
            }
        }

        private void openThoseDue(int year) {
            for (int letter = 0; letter < post.size; letter++) {
                if ((writtenBits & ~openedBits) >> letter == 0) {
                    break;
                }
                if (isWaiting(letter) && dueIn[letter] <= year
                        && folk.lives(post.reader[letter], year) && hasNeeded(letter)) {
                    openOne(letter, year);
                }
            }
        }

        private void openOne(int letter, int year) {
            int reader = post.reader[letter];
            openedBits |= 1 << letter;
            openedIn[letter] = year;
            if (folk.kind[reader] != ELDER) {
                grant(reader, post.word[letter], year);
                return;
            }
            for (int person = 0; person < folk.count; person++) {
                if (person != reader && folk.lives(person, year)) {
                    grant(person, post.word[letter], year);
                }
            }
        }

        private void grant(int person, int word, int year) {
            if ((knownBits[person] >> word & 1) == 0) {
                knownBits[person] |= 1 << word;
                learnedIn[person * WORDS + word] = year;
            }
        }

        private boolean isWaiting(int letter) {
            return ((writtenBits & ~openedBits) >> letter & 1) == 1;
        }

        private boolean hasNeeded(int letter) {
            int needed = post.needed[letter];
            return needed == NONE || (knownBits[post.reader[letter]] >> needed & 1) == 1;
        }

        /** The next year in which a letter may be written, or in which one that waits falls due. */
        private int nextStir(int year) {
            int next = YEARS;
            for (int letter = 0; letter < post.size; letter++) {
                if (post.year[letter] > year) {
                    next = Math.min(next, post.year[letter]);
                } else if (isWaiting(letter) && dueIn[letter] > year) {
                    next = Math.min(next, dueIn[letter]);
                }
            }
            return next;
        }

        /**
         * The first year in which the reader lives and tells age enough, if the writer lives when
         * it is to be written; YEARS, if there is no such year.
         */
        int dueYear(int letter) {
            int year = post.year[letter];
            int writer = post.writer[letter];
            int reader = post.reader[letter];
            if (!folk.lives(writer, year) || !folk.isThere(reader)) {
                return YEARS;
            }
            int age = Math.max(0, folk.toldAge(writer, year) - folk.more[reader]);
            int due = Math.max(year, folk.born[reader] + age);
            return folk.lives(reader, due) ? due : YEARS;
        }

        /**
         * Letters that may help a person to know words by a year, as bits: those that could be
         * opened by then and bring a word that is wanted, by the person or for a letter that helps.
         * Without the others the years are the same to the person, so they need not be tried.
         */
        int helpfulFor(int person, int words, int year) {
            int helpful = 0;
            Arrays.fill(wantedBits, 0);
            wantedBits[person] = words & ~folk.own[person];
            for (int round = 0; round < post.size; round++) {
                for (int letter = 0; letter < post.size; letter++) {
                    if ((helpful >> letter & 1) == 0 && dueYear(letter) <= year && bringsWanted(letter)) {
                        helpful |= 1 << letter;
                        want(post.writer[letter], post.word[letter]);
                        want(post.reader[letter], post.needed[letter]);
                    }
                }
            }
            return helpful;
        }

        private boolean bringsWanted(int letter) {
            int reader = post.reader[letter];
            boolean isReadOut = folk.kind[reader] == ELDER;
            for (int person = 0; person < folk.count; person++) {
                boolean hears = isReadOut ? person != reader : person == reader;
                if (hears && (wantedBits[person] >> post.word[letter] & 1) == 1) {
                    return true;
                }
            }
            return false;
        }

        private void want(int person, int word) {
            if (word != NONE) {
                wantedBits[person] |= 1 << word & ~folk.own[person];
            }
        }

        /** Who writes or reads one of these letters, as bits. */
        int involvedIn(int letters) {
            int persons = 0;
            for (int letter = 0; letter < post.size; letter++) {
                if ((letters >> letter & 1) == 1) {
                    persons |= 1 << post.writer[letter] | 1 << post.reader[letter];
                }
            }
            return persons;
        }

        /** Whether a person lives in a year and knew the word behind the year ahead. */
        boolean couldWrite(int person, int word, int year) {
            if (!folk.lives(person, year) || (knownBits[person] >> word & 1) == 0) {
                return false;
            }
            return (folk.own[person] >> word & 1) == 1 || learnedIn[person * WORDS + word] < year;
        }

        int openingYear(int letter) {
            return (openedBits >> letter & 1) == 1 ? openedIn[letter] : NONE;
        }

        int learningYear(int person, int word) {
            if ((knownBits[person] >> word & 1) == 0) {
                return NONE;
            }
            return (folk.own[person] >> word & 1) == 1 ? 0 : learnedIn[person * WORDS + word];
        }

        boolean knew(int person, int word, int year) {
            if (!folk.isThere(person)) {
                return false;
            }
            int since = learningYear(person, word);
            return since != NONE && since <= year;
        }

        int wordsBehind(int year, int person) {
            int words = 0;
            for (int word = 0; word < WORDS; word++) {
                if (knew(person, word, year)) {
                    words |= 1 << word;
                }
            }
            return words;
        }

        int openedBehind(int year) {
            int letters = 0;
            for (int letter = 0; letter < post.size; letter++) {
                if ((openedBits >> letter & 1) == 1 && openedIn[letter] <= year) {
                    letters |= 1 << letter;
                }
            }
            return letters;
        }

        int waitingBehind(int year) {
            int letters = 0;
            for (int letter = 0; letter < post.size; letter++) {
                if ((writtenBits >> letter & 1) == 1 && post.year[letter] <= year) {
                    letters |= 1 << letter;
                }
            }
            return letters & ~openedBehind(year);
        }

        int sealedBits() {
            return writtenBits & ~openedBits;
        }

        int openedWithin(int year) {
            int many = 0;
            for (int letter = 0; letter < post.size; letter++) {
                many += openingYear(letter) == year ? 1 : 0;
            }
            return many;
        }

        /** NONE, if no letter is opened. */
        int loudestYear() {
            int loudest = NONE;
            int most = 0;
            for (int letter = 0; letter < post.size; letter++) {
                int year = openingYear(letter);
                int many = year == NONE ? 0 : openedWithin(year);
                if (many > most || many == most && many > 0 && year < loudest) {
                    loudest = year;
                    most = many;
                }
            }
            return loudest;
        }
    }

    /** What was done: who knew which word behind which year, or did not. */
    private static final class Deeds {
        int size;
        final int[] year;
        final int[] person;
        final int[] word;
        final int[] is;

        Deeds() {
            size = 0;
            year = new int[DEEDS];
            person = new int[DEEDS];
            word = new int[DEEDS];
            is = new int[DEEDS];
        }

        void addOne(int when, int who, int what, int so) {
            if (size >= DEEDS) {
                return;
            }
            year[size] = when;
            person[size] = who;
            word[size] = what;
            is[size] = so;
            size++;
        }

        boolean cameOutIn(Years years) {
            for (int i = 0; i < size; i++) {
                if (years.knew(person[i], word[i], year[i]) != (is[i] == 1)) {
                    return false;
                }
            }
            return true;
        }
    }

    /** A sheet; its items are held as ints, cut to the form when they are put. */
    private static final class Row {
        boolean isLost;
        int form;
        int size;
        final int[] items;

        Row() {
            isLost = true;
            form = 0;
            size = 0;
            items = new int[ITEMS];
        }

        void begin(int newForm, int newSize) {
            isLost = false;
            form = newForm;
            size = newSize;
            Arrays.fill(items, 0);
        }

        int findingAt(int asForm, int i) {
            if (isLost) {
                return LOST;
            }
            if (asForm != form) {
                return CAST;
            }
            return isBelow(i, size) ? 0 : INDEX;
        }

        boolean hasStretch(int from, int many) {
            return from >= 0 && many >= 0 && from <= size && many <= size - from;
        }

        void setItem(int i, int v) {
            if (!isBelow(i, size)) {
                return;
            }
            items[i] = form == 0 ? (byte) v : form == 1 ? (short) v : v;
        }
    }
}
