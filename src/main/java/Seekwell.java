import java.util.Arrays;
import java.util.NoSuchElementException;

/**
 * A well from which words are drawn: at most 24 texts, found by words, beginnings, slips, phrases, nearness and
 * values, and told in the order of their worth.
 *
 * <p>What a run of calls makes is never given back, so each row and each node is made once and used again.
 */
public final class Seekwell {
  private static final int LOWEST_SIGN = 32;
  private static final int HIGHEST_SIGN = 126;
  private static final int MOST_TYPED = 160;
  // A question of 160 signs made simpler has fewer than 512: a '!' ahead of each unit, and a pair of parentheses a row.
  private static final int LONGEST_LINE = 512;
  private static final int MOST_TEXTS = 24;
  private static final int MOST_PARTS = 8;
  private static final int MOST_SAVED = 4;
  private static final int MOST_FIRST = 10;
  private static final int MOST_VALUE = 999;
  private static final char ANY_TAG = 0;

  private final Line text = new Line();
  private final Shelf shelf = new Shelf();
  private final Shelf shadow = new Shelf();
  private final Row vocabulary = new Row();
  private final Bytes toldRow = new Bytes();
  private final Bytes firstRow = new Bytes();
  private final Bytes secondRow = new Bytes();
  private final Bytes written = new Bytes();
  private boolean hasWritten = false;
  private Question asked = new Question();
  private Question draft = new Question();
  private final Question[] saved = new Question[MOST_SAVED];
  private final Asker asker = new Asker();
  private final Finder finder = new Finder();

  public Seekwell() {
  }

  // ---- the text

  public int type(char sign) throws IllegalArgumentException, IllegalStateException {
    if (sign < LOWEST_SIGN || sign > HIGHEST_SIGN) {
      throw new IllegalArgumentException("no such sign can be typed");
    }
    if (text.size() >= MOST_TYPED) {
      throw new IllegalStateException("the text is full");
    }
    text.put(sign);
    return text.size();
  }

  public int erase() {
    int size = text.size();
    text.clear();
    return size;
  }

  public char signAt(int place) throws IndexOutOfBoundsException {
    if (place < 0 || place >= text.size()) {
      throw new IndexOutOfBoundsException("the text has no such place");
    }
    return text.at(place);
  }

  // ---- texts

  public int add(int value, char tag) throws IllegalArgumentException, IllegalStateException {
    if (value < 0 || value > MOST_VALUE || !isTag(tag)) {
      throw new IllegalArgumentException("no such value or tag");
    }
    if (shelf.came() >= MOST_TEXTS) {
      throw new IllegalStateException("all texts came");
    }
    int number = shelf.come(text, value, tag);
    text.clear();
    return number;
  }

  public int revise(int number) throws NoSuchElementException {
    Text revised = textOf(number);
    shelf.readAnew(revised, text);
    text.clear();
    return revised.size();
  }

  public int drop(int number) throws NoSuchElementException {
    textOf(number).isPresent = false;
    return shelf.count();
  }

  public int texts() {
    return shelf.count();
  }

  public boolean isThere(int number) {
    return shelf.at(number) != null;
  }

  public int length(int number) throws NoSuchElementException {
    return textOf(number).size();
  }

  public int tellWord(int number, boolean isTitle, int place)
      throws NoSuchElementException, IndexOutOfBoundsException {
    Text told = textOf(number);
    Row row = isTitle ? told.title : told.body;
    if (place < 0 || place >= row.size()) {
      throw new IndexOutOfBoundsException("the text has no such place");
    }
    return tell(row.at(place));
  }

  public int value(int number) throws NoSuchElementException {
    return textOf(number).value;
  }

  public char tag(int number) throws NoSuchElementException {
    return textOf(number).tag;
  }

  // ---- words

  public int words() {
    shelf.collect(vocabulary);
    return vocabulary.size();
  }

  public int tellOf(int index) throws IndexOutOfBoundsException {
    shelf.collect(vocabulary);
    if (index < 0 || index >= vocabulary.size()) {
      throw new IndexOutOfBoundsException("there is no such word");
    }
    return tell(vocabulary.at(index));
  }

  public int having() throws IllegalArgumentException {
    long word = Words.shorten(onlyWord());
    text.clear();
    return shelf.countHaving(word);
  }

  public int beginning() throws IllegalArgumentException {
    long beginning = onlyWord();
    text.clear();
    shelf.collect(vocabulary);
    int count = 0;
    for (int i = 0; i < vocabulary.size(); i++) {
      if (Words.begins(vocabulary.at(i), beginning)) {
        count++;
      }
    }
    return count;
  }

  public int slips() throws IllegalArgumentException {
    long slip = onlyWord();
    text.clear();
    shelf.collect(vocabulary);
    int count = 0;
    for (int i = 0; i < vocabulary.size(); i++) {
      if (Words.isSlip(vocabulary.at(i), slip)) {
        count++;
      }
    }
    return count;
  }

  public int suggest() throws IllegalArgumentException, NoSuchElementException {
    long slip = onlyWord();
    shelf.collect(vocabulary);
    long best = 0;
    int most = 0;
    for (int i = 0; i < vocabulary.size(); i++) {
      long word = vocabulary.at(i);
      if (word != slip && Words.isSlip(word, slip)) {
        int having = shelf.countHaving(word);
        if (having > most) {
          most = having;
          best = word;
        }
      }
    }
    if (best == 0) {
      throw new NoSuchElementException("there is no such word");
    }
    return tell(best);
  }

  // ---- parts

  public int parts() {
    return shelf.partCount();
  }

  public int partSize(int part) throws IndexOutOfBoundsException {
    needPart(part);
    return shelf.countIn(part);
  }

  public int seal() throws UnsupportedOperationException, IllegalStateException {
    if (shelf.countIn(shelf.partCount() - 1) == 0) {
      throw new UnsupportedOperationException("the newest part has no texts");
    }
    if (shelf.partCount() >= MOST_PARTS) {
      throw new IllegalStateException("there are all parts");
    }
    return shelf.beginPart();
  }

  public int join(int part) throws IndexOutOfBoundsException {
    if (part < 0 || part >= shelf.partCount() - 1) {
      throw new IndexOutOfBoundsException("there is no such part, or none behind it");
    }
    shelf.joinPart(part);
    return shelf.countIn(part);
  }

  public int packed(int part) throws IndexOutOfBoundsException, IllegalArgumentException {
    needPart(part);
    long word = Words.shorten(onlyWord());
    text.clear();
    shelf.pack(word, part, toldRow);
    return toldRow.size();
  }

  public int byteAt(int index) throws IndexOutOfBoundsException {
    if (index < 0 || index >= toldRow.size()) {
      throw new IndexOutOfBoundsException("the packed row has no such byte");
    }
    return toldRow.at(index);
  }

  // ---- questions

  public int ask() {
    int answer = asker.read(text, draft);
    text.clear();
    if (answer >= 0) {
      Question before = asked;
      asked = draft;
      draft = before;
    }
    return answer;
  }

  public int simplify() throws IllegalStateException {
    needQuestion();
    asked.makeSimpler();
    return asked.countUnits();
  }

  public int tellQuestion() throws IllegalStateException {
    needQuestion();
    asked.putInto(text);
    return text.size();
  }

  public boolean fits(int number) throws IllegalStateException, NoSuchElementException {
    needQuestion();
    return finder.isFit(asked, textOf(number));
  }

  public int hits() throws IllegalStateException {
    needQuestion();
    return finder.count(asked, shelf, ANY_TAG, 0, MOST_VALUE);
  }

  public int hitAt(int rank) throws IllegalStateException, IndexOutOfBoundsException {
    needQuestion();
    finder.find(asked, shelf, MOST_TEXTS);
    return foundAt(rank);
  }

  public int top(int most, int rank)
      throws IllegalStateException, IllegalArgumentException, IndexOutOfBoundsException {
    needQuestion();
    if (most < 1 || most > MOST_FIRST) {
      throw new IllegalArgumentException("1 to 10 can be looked for");
    }
    finder.find(asked, shelf, most);
    return foundAt(rank);
  }

  public int tellWorth(int number) throws IllegalStateException, NoSuchElementException {
    needQuestion();
    finder.putWorth(asked, shelf, textOf(number), text);
    return text.size();
  }

  public int tagged(char tag) throws IllegalStateException, IllegalArgumentException {
    needQuestion();
    if (!isTag(tag)) {
      throw new IllegalArgumentException("there is no such tag");
    }
    return finder.count(asked, shelf, tag, 0, MOST_VALUE);
  }

  public int valued(int low, int high) throws IllegalStateException {
    needQuestion();
    return finder.count(asked, shelf, ANY_TAG, low, high);
  }

  public int spanBegin(int number)
      throws IllegalStateException, NoSuchElementException, UnsupportedOperationException {
    needSpan(number);
    return finder.begin();
  }

  public int spanLength(int number)
      throws IllegalStateException, NoSuchElementException, UnsupportedOperationException {
    needSpan(number);
    return finder.width();
  }

  public int save(int slot) throws IllegalStateException, IndexOutOfBoundsException {
    needQuestion();
    if (slot < 0 || slot >= saved.length) {
      throw new IndexOutOfBoundsException("there is no such slot");
    }
    Question kept = saved[slot];
    if (kept == null) {
      kept = new Question();
      saved[slot] = kept;
    }
    kept.copyFrom(asked);
    int count = 0;
    for (int i = 0; i < saved.length; i++) {
      if (saved[i] != null) {
        count++;
      }
    }
    return count;
  }

  public int news(int number) throws NoSuchElementException {
    Text read = textOf(number);
    int sum = 0;
    for (int i = 0; i < saved.length; i++) {
      Question kept = saved[i];
      if (kept != null && finder.isFit(kept, read)) {
        sum += 1 << i;
      }
    }
    return sum;
  }

  // ---- likeness, the whole

  public int likeness(int a, int b) throws NoSuchElementException, ArithmeticException {
    Row one = textOf(a).body;
    Row other = textOf(b).body;
    int both = one.countPairsOf(other);
    int any = one.countPairsOf(one) + other.countPairsOf(other) - both;
    if (any <= 0) {
      throw new ArithmeticException("neither body has a pair of words");
    }
    return both * 1000 / any;
  }

  public int write() {
    shelf.writeInto(written);
    hasWritten = true;
    return written.size();
  }

  public int writtenAt(int index) throws IndexOutOfBoundsException {
    if (index < 0 || index >= written.size()) {
      throw new IndexOutOfBoundsException("no such byte was written");
    }
    return written.at(index);
  }

  public int reread() throws NoSuchElementException {
    if (!hasWritten) {
      throw new NoSuchElementException("nothing was written");
    }
    shelf.readFrom(written);
    return shelf.count();
  }

  public long checksum() {
    long sum = shelf.sum(7);
    for (int i = 0; i < text.size(); i++) {
      sum = 31 * sum + text.at(i);
    }
    return sum;
  }

  public boolean isSound() {
    if (!areRowsSound()) {
      return false;
    }
    if (asked.isEmpty()) {
      return true;
    }
    draft.copyFrom(asked);
    draft.makeSimpler();
    return finder.isSame(asked, shelf, asked, shadow)
        && finder.isSame(asked, shelf, draft, shelf)
        && finder.areFirstOnes(asked, shelf, MOST_FIRST);
  }

  // ---- what several calls need

  private static boolean isTag(char tag) {
    return tag >= 'a' && tag <= 'z';
  }

  private Text textOf(int number) {
    Text found = shelf.at(number);
    if (found == null) {
      throw new NoSuchElementException("there is no such text");
    }
    return found;
  }

  private void needPart(int part) {
    if (part < 0 || part >= shelf.partCount()) {
      throw new IndexOutOfBoundsException("there is no such part");
    }
  }

  private void needQuestion() {
    if (asked.isEmpty()) {
      throw new IllegalStateException("nothing was asked");
    }
  }

  private void needSpan(int number) {
    needQuestion();
    Text read = textOf(number);
    if (!finder.isFit(asked, read)) {
      throw new NoSuchElementException("the text does not fit");
    }
    if (!finder.findSpan(asked, read.body)) {
      throw new UnsupportedOperationException("no item has a spot in the body");
    }
  }

  private long onlyWord() {
    long word = text.onlyWord();
    if (word == 0) {
      throw new IllegalArgumentException("the text is not one word");
    }
    return word;
  }

  private int foundAt(int rank) {
    if (rank < 0 || rank >= finder.found()) {
      throw new IndexOutOfBoundsException("there is no such place");
    }
    return finder.numberAt(rank);
  }

  private int tell(long word) {
    text.clear();
    text.putWord(word);
    return text.size();
  }

  /** Unpacks all packed rows into the shadow, which must be like the shelf then, and packs them again from there. */
  private boolean areRowsSound() {
    shelf.collect(vocabulary);
    shadow.takeFrame(shelf);
    for (int part = 0; part < shelf.partCount(); part++) {
      for (int i = 0; i < vocabulary.size(); i++) {
        long word = vocabulary.at(i);
        shelf.pack(word, part, firstRow);
        if (!shadow.unpack(word, firstRow)) {
          return false;
        }
        shadow.pack(word, part, secondRow);
        if (!firstRow.isLike(secondRow)) {
          return false;
        }
      }
    }
    return shadow.isLike(shelf);
  }

  /**
   * Words are numbers: twelve signs to the base 37, 0 behind the last one, so that the order of the numbers is that
   * of the words.
   */
  private static final class Words {
    static final int MOST_SIGNS = 12;
    private static final int BASE = 37;
    private static final int FIRST_DIGIT = 1;
    private static final int FIRST_LETTER = 11;
    private static final long[] POWERS = {
      1L, 37L, 1369L, 50653L, 1874161L, 69343957L, 2565726409L, 94931877133L, 3512479453921L,
      129961739795077L, 4808584372417849L, 177917621779460413L
    };

    private Words() {
    }

    /** Tells which sign of a word this is: 1 and above, or 0 if a word cannot have it. */
    static int rank(char sign) {
      if (sign >= '0' && sign <= '9') {
        return FIRST_DIGIT + (sign - '0');
      }
      if (sign >= 'a' && sign <= 'z') {
        return FIRST_LETTER + (sign - 'a');
      }
      if (sign >= 'A' && sign <= 'Z') {
        return FIRST_LETTER + (sign - 'A');
      }
      return 0;
    }

    /** The sign of a word at a place, or 0 behind its end. */
    static char signOf(long word, int place) {
      if (place < 0 || place >= POWERS.length) {
        return 0;
      }
      long unit = POWERS[POWERS.length - 1 - place];
      if (unit <= 0) {
        return 0;
      }
      int rank = (int) (word / unit % BASE);
      if (rank >= FIRST_LETTER) {
        return (char) ('a' + (rank - FIRST_LETTER));
      }
      return rank >= FIRST_DIGIT ? (char) ('0' + (rank - FIRST_DIGIT)) : 0;
    }

    static int size(long word) {
      int size = 0;
      while (size < MOST_SIGNS && signOf(word, size) != 0) {
        size++;
      }
      return size;
    }

    /** The word with a sign, told by its rank, put at the place behind its last one; just the first twelve count. */
    static long with(long word, int place, int rank) {
      if (place < 0 || place >= POWERS.length) {
        return word;
      }
      return word + rank * POWERS[POWERS.length - 1 - place];
    }

    /** The first signs of a word, as many as told. */
    static long keep(long word, int size) {
      if (size < 1 || size > POWERS.length) {
        return word;
      }
      long unit = POWERS[POWERS.length - size];
      return unit <= 0 ? word : word - word % unit;
    }

    static long shorten(long word) {
      int size = size(word);
      if (size > 3 && signOf(word, size - 1) == 's' && signOf(word, size - 2) != 's') {
        size--;
      }
      char last = signOf(word, size - 1);
      char second = signOf(word, size - 2);
      if (size > 5 && last == 'g' && second == 'n' && signOf(word, size - 3) == 'i') {
        size -= 3;
      } else if (size > 4 && last == 'd' && second == 'e') {
        size -= 2;
      }
      return keep(word, size);
    }

    static boolean begins(long word, long beginning) {
      for (int i = POWERS.length - 1; i >= 0; i--) {
        long unit = POWERS[i];
        if (unit > 0 && beginning % unit == 0) {
          return word >= beginning && word - beginning < unit;
        }
      }
      return false;
    }

    /** Tells whether two words are the same, or one sign put in, taken out, changed, or put about makes them so. */
    static boolean isSlip(long word, long other) {
      long wordTail = word;
      long otherTail = other;
      for (int i = POWERS.length - 1; i >= 0; i--) {
        long unit = POWERS[i];
        if (unit <= 0) {
          return false;
        }
        long wordSign = wordTail / unit;
        long otherSign = otherTail / unit;
        long wordRest = wordTail % unit;
        long otherRest = otherTail % unit;
        if (wordSign != otherSign) {
          long next = unit / BASE;
          boolean isPutAbout = next > 0 && wordRest / next == otherSign && otherRest / next == wordSign
              && wordRest % next == otherRest % next;
          return wordRest == otherRest || wordTail == otherRest * BASE || otherTail == wordRest * BASE || isPutAbout;
        }
        wordTail = wordRest;
        otherTail = otherRest;
      }
      return true;
    }
  }

  /** A row of signs. */
  private static final class Line {
    private static final int MOST_DIGITS = 18;
    private final char[] signs = new char[LONGEST_LINE];
    private int size = 0;

    int size() {
      return size;
    }

    void clear() {
      size = 0;
    }

    /** The sign at a place, or 0 outside the row. */
    char at(int place) {
      return place >= 0 && place < size && place < signs.length ? signs[place] : 0;
    }

    void put(char sign) {
      if (size >= 0 && size < signs.length) {
        signs[size] = sign;
        size++;
      }
    }

    void putWord(long word) {
      int wordSize = Words.size(word);
      for (int i = 0; i < wordSize; i++) {
        put(Words.signOf(word, i));
      }
    }

    void putNumber(long number) {
      long unit = 1;
      for (int i = 1; i < MOST_DIGITS && unit <= number / 10; i++) {
        unit *= 10;
      }
      putDigits(number, unit);
    }

    /** Puts the digits of a number from that of the unit, a power of ten, down to the last one. */
    void putDigits(long number, long unit) {
      for (long left = unit; left > 0; left /= 10) {
        put((char) ('0' + (int) (number / left % 10)));
      }
    }

    /** The place behind the letters and digits that stand from a place on. */
    int wordEnd(int from) {
      int end = from;
      while (end < size && Words.rank(at(end)) > 0) {
        end++;
      }
      return end;
    }

    /** The word between two places, of which the first twelve signs count. */
    long wordAt(int from, int end) {
      long word = 0;
      for (int i = 0; i < Words.MOST_SIGNS && i < end - from; i++) {
        word = Words.with(word, i, Words.rank(at(from + i)));
      }
      return word;
    }

    /** The word, not shortened, that is the whole row, or 0 if the row is not one word. */
    long onlyWord() {
      return wordEnd(0) == size ? wordAt(0, size) : 0;
    }

    /** The first place of a sign, or -1. */
    int placeOf(char sign) {
      for (int i = 0; i < size; i++) {
        if (at(i) == sign) {
          return i;
        }
      }
      return -1;
    }
  }

  /** A row of bytes, which are put and read as numbers of seven bits a byte, the lowest ones first. */
  private static final class Bytes {
    private int[] bytes = new int[16];
    private int size = 0;
    private int cursor = 0;

    int size() {
      return size;
    }

    int at(int index) {
      return index >= 0 && index < size && index < bytes.length ? bytes[index] : 0;
    }

    void clear() {
      size = 0;
      cursor = 0;
    }

    void put(int number) {
      int rest = number < 0 ? 0 : number;
      while (rest >= 128) {
        putByte(rest % 128 + 128);
        rest /= 128;
      }
      putByte(rest);
    }

    private void putByte(int value) {
      if (size >= bytes.length) {
        bytes = Arrays.copyOf(bytes, 2 * size + 1);
      }
      if (size >= 0 && size < bytes.length) {
        bytes[size] = value;
        size++;
      }
    }

    void rewind() {
      cursor = 0;
    }

    boolean hasNext() {
      return cursor < size;
    }

    int next() {
      int number = 0;
      int shift = 0;
      while (cursor < size && at(cursor) >= 128) {
        number += (at(cursor) - 128) << shift;
        shift += 7;
        cursor++;
      }
      number += at(cursor) << shift;
      cursor++;
      return number;
    }

    boolean isLike(Bytes other) {
      if (size != other.size) {
        return false;
      }
      for (int i = 0; i < size; i++) {
        if (at(i) != other.at(i)) {
          return false;
        }
      }
      return true;
    }
  }

  /** A row of words with places from 0. */
  private static final class Row {
    private static final int MOST_HALVINGS = 32;
    private long[] words = new long[4];
    private int size = 0;

    int size() {
      return size;
    }

    void clear() {
      size = 0;
    }

    /** The word at a place, or 0, which is none, outside the row. */
    long at(int place) {
      return place >= 0 && place < size && place < words.length ? words[place] : 0;
    }

    void put(long word) {
      putAt(size, word);
    }

    /** Puts a word at a place, which may be behind the end; the row has no words between. */
    void putAt(int place, long word) {
      if (place < 0 || place > LONGEST_LINE * MOST_TEXTS) {
        return;
      }
      if (place >= words.length) {
        words = Arrays.copyOf(words, 2 * place + 1);
      }
      if (place >= size) {
        Arrays.fill(words, size, place, 0L);
        size = place + 1;
      }
      if (place < words.length) {
        words[place] = word;
      }
    }

    /** Puts a word at its place in the order of words, once. */
    void putSorted(long word) {
      int low = 0;
      int high = size;
      for (int i = 0; i < MOST_HALVINGS && low < high; i++) {
        int middle = (low + high) / 2;
        if (at(middle) < word) {
          low = middle + 1;
        } else {
          high = middle;
        }
      }
      if (at(low) != word) {
        put(word);
        for (int i = size - 1; i > low; i--) {
          putAt(i, at(i - 1));
        }
        putAt(low, word);
      }
    }

    /** Reads the words that stand between two places of a line. */
    void read(Line line, int from, int end) {
      clear();
      for (int place = from; place < end; place++) {
        int wordEnd = line.wordEnd(place);
        if (wordEnd > place) {
          put(Words.shorten(line.wordAt(place, wordEnd)));
          place = wordEnd;
        }
      }
    }

    /** Tells whether a word stands at a place from one to another one. */
    boolean hasFrom(long word, int from, int end) {
      for (int i = from < 0 ? 0 : from; i <= end && i < size && i < words.length; i++) {
        if (words[i] == word) {
          return true;
        }
      }
      return false;
    }

    /** Tells whether words stand one behind the other from a place on. */
    boolean hasRow(Row run, int from) {
      if (from < 0 || from > size - run.size) {
        return false;
      }
      for (int i = 0; i < run.size && i < run.words.length && from + i < words.length; i++) {
        if (words[from + i] != run.words[i]) {
          return false;
        }
      }
      return true;
    }

    boolean isLike(Row other) {
      return size == other.size && hasRow(other, 0);
    }

    void copyFrom(Row other) {
      clear();
      for (int i = 0; i < other.size; i++) {
        put(other.at(i));
      }
    }

    /** Counts the unlike pairs of neighbours that both rows have. */
    int countPairsOf(Row other) {
      int count = 0;
      for (int i = 0; i < size - 1; i++) {
        if (!hasPair(at(i), at(i + 1), i) && other.hasPair(at(i), at(i + 1), other.size - 1)) {
          count++;
        }
      }
      return count;
    }

    private boolean hasPair(long one, long behind, int end) {
      for (int i = 0; i < end; i++) {
        if (at(i) == one && at(i + 1) == behind) {
          return true;
        }
      }
      return false;
    }

    /** Packs how many places a word has, and each of them less the one ahead. */
    void pack(long word, Bytes bytes) {
      int count = 0;
      for (int i = 0; i < size; i++) {
        if (at(i) == word) {
          count++;
        }
      }
      bytes.put(count);
      int ahead = 0;
      for (int i = 0; i < size; i++) {
        if (at(i) == word) {
          bytes.put(i - ahead);
          ahead = i;
        }
      }
    }

    void unpack(long word, Bytes bytes) {
      int count = bytes.next();
      int place = 0;
      for (int i = 0; i < count && bytes.hasNext(); i++) {
        place += bytes.next();
        putAt(place, word);
      }
    }

    void writeInto(Bytes bytes) {
      bytes.put(size);
      for (int i = 0; i < size; i++) {
        long word = at(i);
        int signs = Words.size(word);
        bytes.put(signs);
        for (int k = 0; k < signs; k++) {
          bytes.put(Words.signOf(word, k));
        }
      }
    }

    void readFrom(Bytes bytes) {
      clear();
      int count = bytes.next();
      for (int i = 0; i < count && bytes.hasNext(); i++) {
        int signs = bytes.next();
        long word = 0;
        for (int k = 0; k < signs && bytes.hasNext(); k++) {
          word = Words.with(word, k, Words.rank((char) bytes.next()));
        }
        put(word);
      }
    }

    long sum(long start) {
      long sum = 31 * start + size;
      for (int i = 0; i < size; i++) {
        long word = at(i);
        int signs = Words.size(word);
        for (int k = 0; k < signs; k++) {
          sum = 31 * sum + Words.signOf(word, k);
        }
      }
      return sum;
    }
  }

  /** A text that came; one that went is kept, but not present. */
  private static final class Text {
    final Row title = new Row();
    final Row body = new Row();
    int value = 0;
    char tag = 'a';
    int part = 0;
    boolean isPresent = false;

    int size() {
      return title.size() + body.size();
    }

    void read(Line line) {
      int end = line.placeOf('|');
      title.read(line, 0, end);
      body.read(line, end + 1, line.size());
    }

    boolean has(long word) {
      return title.hasFrom(word, 0, title.size()) || body.hasFrom(word, 0, body.size());
    }
  }

  /** The texts by their numbers, and the parts in which they stand. */
  private static final class Shelf {
    private final Text[] all = new Text[MOST_TEXTS];
    private int came = 0;
    private int partCount = 1;

    int came() {
      return came;
    }

    int partCount() {
      return partCount;
    }

    /** The text of a number, or null if it did not come, or went. */
    Text at(int number) {
      if (number < 0 || number >= came || number >= all.length) {
        return null;
      }
      Text text = all[number];
      return text != null && text.isPresent ? text : null;
    }

    /** Makes a number's text present, as one of the newest part. */
    private Text place(int number) {
      if (number < 0 || number >= all.length) {
        return null;
      }
      if (all[number] == null) {
        all[number] = new Text();
      }
      Text text = all[number];
      text.part = partCount - 1;
      text.isPresent = true;
      return text;
    }

    int come(Line line, int value, char tag) {
      Text text = place(came);
      if (text == null) {
        return came;
      }
      came++;
      text.value = value;
      text.tag = tag;
      text.read(line);
      return came - 1;
    }

    void readAnew(Text text, Line line) {
      text.read(line);
      text.part = partCount - 1;
    }

    int count() {
      int count = 0;
      for (int i = 0; i < came; i++) {
        if (at(i) != null) {
          count++;
        }
      }
      return count;
    }

    int countIn(int part) {
      int count = 0;
      for (int i = 0; i < came; i++) {
        Text text = at(i);
        if (text != null && text.part == part) {
          count++;
        }
      }
      return count;
    }

    int countHaving(long word) {
      int count = 0;
      for (int i = 0; i < came; i++) {
        Text text = at(i);
        if (text != null && text.has(word)) {
          count++;
        }
      }
      return count;
    }

    int beginPart() {
      partCount++;
      return partCount;
    }

    void joinPart(int part) {
      for (int i = 0; i < came; i++) {
        Text text = at(i);
        if (text != null && text.part > part) {
          text.part--;
        }
      }
      partCount--;
    }

    /** Puts all words that the texts have into a row, in their order, each once. */
    void collect(Row row) {
      row.clear();
      for (int i = 0; i < came; i++) {
        Text text = at(i);
        if (text != null) {
          for (int k = 0; k < text.title.size(); k++) {
            row.putSorted(text.title.at(k));
          }
          for (int k = 0; k < text.body.size(); k++) {
            row.putSorted(text.body.at(k));
          }
        }
      }
    }

    void pack(long word, int part, Bytes bytes) {
      bytes.clear();
      int ahead = 0;
      for (int i = 0; i < came; i++) {
        Text text = at(i);
        if (text != null && text.part == part && text.has(word)) {
          bytes.put(i - ahead);
          text.title.pack(word, bytes);
          text.body.pack(word, bytes);
          ahead = i;
        }
      }
    }

    /** Puts a word at the places that its packed row tells; answers false if the row tells of a text that is not. */
    boolean unpack(long word, Bytes bytes) {
      bytes.rewind();
      int number = 0;
      for (int i = 0; i < MOST_TEXTS && bytes.hasNext(); i++) {
        number += bytes.next();
        Text text = at(number);
        if (text == null) {
          return false;
        }
        text.title.unpack(word, bytes);
        text.body.unpack(word, bytes);
      }
      return true;
    }

    /** Takes the texts of another shelf with their parts, values and tags, but without their words. */
    void takeFrame(Shelf other) {
      came = other.came;
      partCount = other.partCount;
      for (int i = 0; i < came; i++) {
        Text theirs = other.at(i);
        Text ours = place(i);
        if (ours != null) {
          ours.title.clear();
          ours.body.clear();
          ours.isPresent = theirs != null;
          if (theirs != null) {
            ours.part = theirs.part;
            ours.value = theirs.value;
            ours.tag = theirs.tag;
          }
        }
      }
    }

    /** Tells whether all texts have the same words at the same places as those of another shelf. */
    boolean isLike(Shelf other) {
      for (int i = 0; i < came; i++) {
        Text ours = at(i);
        Text theirs = other.at(i);
        if (ours != null && theirs != null
            && !(ours.title.isLike(theirs.title) && ours.body.isLike(theirs.body))) {
          return false;
        }
      }
      return true;
    }

    void writeInto(Bytes bytes) {
      bytes.clear();
      for (int i = 0; i < came; i++) {
        Text text = at(i);
        if (text != null) {
          bytes.put(i);
          bytes.put(text.value);
          bytes.put(text.tag - 'a');
          text.title.writeInto(bytes);
          text.body.writeInto(bytes);
        }
      }
    }

    /** Lets the texts be those that were written; how many came stays. */
    void readFrom(Bytes bytes) {
      partCount = 1;
      for (int i = 0; i < came; i++) {
        Text text = at(i);
        if (text != null) {
          text.isPresent = false;
        }
      }
      bytes.rewind();
      for (int i = 0; i < MOST_TEXTS && bytes.hasNext(); i++) {
        Text text = place(bytes.next());
        if (text == null) {
          return;
        }
        text.value = bytes.next();
        text.tag = (char) ('a' + bytes.next());
        text.title.readFrom(bytes);
        text.body.readFrom(bytes);
      }
    }

    long sum(long start) {
      long sum = start;
      for (int i = 0; i < came; i++) {
        Text text = at(i);
        if (text != null) {
          sum = 31 * sum + i;
          sum = 31 * sum + text.value;
          sum = 31 * sum + text.tag;
          sum = text.title.sum(sum);
          sum = text.body.sum(sum);
        }
      }
      for (int part = 0; part < partCount; part++) {
        sum = 31 * sum + countIn(part);
      }
      return sum;
    }
  }

  /**
   * A unit of a question, or a row of choices or of terms. Parentheses around one term are that term, but if both have
   * a '!' or a weight: then they are a row of one choice.
   */
  private static final class Node {
    static final int WORD = 0;
    static final int BEGINNING = 1;
    static final int SLIP = 2;
    static final int PHRASE = 3;
    static final int NEARNESS = 4;
    static final int VALUES = 5;
    static final int ALL = 6;
    static final int ANY = 7;

    static final int ANYWHERE = 0;
    static final int IN_TITLE = 1;
    static final int IN_BODY = 2;

    int kind = WORD;
    boolean isNot = false;
    int weight = 1;
    int where = ANYWHERE;
    /** The first number of a span of values, or the digit of a nearness. */
    int low = 0;
    int high = 0;
    final Row row = new Row();
    Node parent = null;
    Node next = null;
    Node first = null;
    Node last = null;
    int size = 0;
    boolean isFit = false;
    boolean isGone = false;
    int fitting = 0;
    Node copy = null;
    Node later = null;

    void reset(int kind) {
      this.kind = kind;
      isNot = false;
      weight = 1;
      where = ANYWHERE;
      low = 0;
      high = 0;
      row.clear();
      parent = null;
      next = null;
      empty();
    }

    private void empty() {
      first = null;
      last = null;
      size = 0;
    }

    void put(Node child) {
      child.parent = this;
      child.next = null;
      child.isGone = false;
      if (last == null) {
        first = child;
      } else {
        last.next = child;
      }
      last = child;
      size++;
    }

    /** Is what another node is, at its own place. */
    void become(Node other) {
      takeUnit(other);
      Node child = other.first;
      empty();
      takeRow(child);
    }

    /** Takes what a node is by itself, without the row that it holds. */
    void takeUnit(Node other) {
      kind = other.kind;
      isNot = other.isNot;
      weight = other.weight;
      where = other.where;
      low = other.low;
      high = other.high;
      row.copyFrom(other.row);
    }

    /** Puts a node and all that stand behind it. */
    private void takeRow(Node from) {
      Node child = from;
      while (child != null) {
        Node behind = child.next;
        put(child);
        child = behind;
      }
    }

    /** Tells whether it is a unit by which a text has worth, or a nearness, and not behind a '!'. */
    boolean isItem() {
      if (kind > NEARNESS) {
        return false;
      }
      for (Node holder = this; holder != null; holder = holder.parent) {
        if (holder.isNot) {
          return false;
        }
      }
      return true;
    }

    Node deepest() {
      Node node = this;
      while (node.first != null) {
        node = node.first;
      }
      return node;
    }

    /** The next one in the order in which each stands behind all that it holds. */
    Node after() {
      return next != null ? next.deepest() : parent;
    }

    /** The next one in the order in which each stands ahead of all that it holds, or null at the end of the whole. */
    Node within(Node whole) {
      if (first != null) {
        return first;
      }
      Node node = this;
      while (node != null && node != whole && node.next == null) {
        node = node.parent;
      }
      return node == null || node == whole ? null : node.next;
    }

    /** Tells whether what it holds fits, as a row of choices or of terms. */
    boolean isRowFit() {
      for (Node child = first; child != null; child = child.next) {
        if (child.isFit != (kind == ALL)) {
          return kind != ALL;
        }
      }
      return kind == ALL;
    }

    /** Takes its own weight away, and puts a '!' ahead of a row to each one of it. */
    void pushNot() {
      weight = 1;
      if (isNot && (kind == ALL || kind == ANY)) {
        isNot = false;
        kind = kind == ALL ? ANY : ALL;
        for (Node child = first; child != null; child = child.next) {
          child.isNot = !child.isNot;
        }
      }
    }

    /** Puts what rows of its own kind hold at their place. */
    void takeRowsIn() {
      Node child = first;
      empty();
      while (child != null) {
        Node behind = child.next;
        if (child.kind == kind) {
          takeRow(child.first);
        } else {
          put(child);
        }
        child = behind;
      }
    }

    void dropLike() {
      for (Node child = first; child != null; child = child.next) {
        for (Node ahead = first; ahead != null && ahead != child; ahead = ahead.next) {
          if (ahead.isLike(child)) {
            child.isGone = true;
          }
        }
      }
      dropGone();
    }

    void dropNeedless() {
      int partKind = kind == ANY ? ALL : ANY;
      for (Node child = first; child != null; child = child.next) {
        for (Node other = first; other != null && !child.isGone; other = other.next) {
          child.isGone = other != child && !other.isGone && child.hasAllOf(other, partKind);
        }
      }
      dropGone();
    }

    private void dropGone() {
      Node child = first;
      empty();
      while (child != null) {
        Node behind = child.next;
        if (!child.isGone) {
          put(child);
        }
        child = behind;
      }
    }

    private boolean hasAllOf(Node other, int partKind) {
      if (other.kind != partKind) {
        return hasPart(other, partKind);
      }
      for (Node part = other.first; part != null; part = part.next) {
        if (!hasPart(part, partKind)) {
          return false;
        }
      }
      return true;
    }

    private boolean hasPart(Node part, int partKind) {
      if (kind != partKind) {
        return isLike(part);
      }
      for (Node own = first; own != null; own = own.next) {
        if (own.isLike(part)) {
          return true;
        }
      }
      return false;
    }

    /** Tells whether both are told alike, when no rows stand in rows of their kind, and no weights are left. */
    private boolean isLike(Node other) {
      Node ours = this;
      Node theirs = other;
      while (ours != null && theirs != null) {
        if (!ours.isLikeAlone(theirs)) {
          return false;
        }
        ours = ours.within(this);
        theirs = theirs.within(other);
      }
      return ours == null && theirs == null;
    }

    private boolean isLikeAlone(Node other) {
      return kind == other.kind && isNot == other.isNot && where == other.where && low == other.low
          && high == other.high && size == other.size && row.size() == other.row.size() && row.hasRow(other.row, 0);
    }

    /** Tells whether parentheses must stand around what it holds. */
    private boolean isInParentheses() {
      if (kind < ALL) {
        return false;
      }
      return isNot || weight > 1 || kind == ANY && parent != null && parent.kind == ALL;
    }

    /** Tells what stands ahead of the row that it holds, or all of a unit but its weight. */
    void putAhead(Line line) {
      if (isNot) {
        line.put('!');
      }
      if (isInParentheses()) {
        line.put('(');
      }
      if (kind == VALUES) {
        line.put('[');
        line.putNumber(low);
        line.put('-');
        line.putNumber(high);
        line.put(']');
      } else if (kind < ALL) {
        putWords(line);
      }
    }

    void putBehind(Line line) {
      if (isInParentheses()) {
        line.put(')');
      }
      if (weight > 1) {
        line.put('^');
        line.putNumber(weight);
      }
    }

    private void putWords(Line line) {
      if (where != ANYWHERE) {
        line.put(where == IN_TITLE ? '<' : '>');
      }
      if (kind == PHRASE) {
        line.put('"');
      } else if (kind == NEARNESS) {
        line.put('{');
        line.putNumber(low);
      }
      for (int i = 0; i < row.size(); i++) {
        if (i > 0 || kind == NEARNESS) {
          line.put(' ');
        }
        line.putWord(row.at(i));
      }
      if (kind == BEGINNING) {
        line.put('*');
      } else if (kind == SLIP) {
        line.put('~');
      } else if (kind == PHRASE) {
        line.put('"');
      } else if (kind == NEARNESS) {
        line.put('}');
      }
    }
  }

  /** A question, or none yet; its nodes are used again for the next one. */
  private static final class Question {
    private final Node pool = new Node();
    private Node newest = pool;
    private Node root = null;

    boolean isEmpty() {
      return root == null;
    }

    void clear() {
      newest = pool;
      root = null;
    }

    Node fresh(int kind) {
      if (newest.later == null) {
        newest.later = new Node();
      }
      newest = newest.later;
      newest.reset(kind);
      return newest;
    }

    void rootAt(Node node) {
      root = node;
      node.parent = null;
      node.next = null;
    }

    Node root() {
      return root;
    }

    /** The first one in the order in which each node stands behind all that it holds. */
    Node deepest() {
      return root == null ? null : root.deepest();
    }

    int countUnits() {
      int count = 0;
      for (Node node = deepest(); node != null; node = node.after()) {
        if (node.kind < Node.ALL) {
          count++;
        }
      }
      return count;
    }

    void copyFrom(Question other) {
      clear();
      for (Node node = other.deepest(); node != null; node = node.after()) {
        Node copy = fresh(node.kind);
        copy.takeUnit(node);
        for (Node child = node.first; child != null; child = child.next) {
          if (child.copy != null) {
            copy.put(child.copy);
          }
        }
        node.copy = copy;
        if (node == other.root) {
          rootAt(copy);
        }
      }
    }

    void makeSimpler() {
      for (Node node = root; node != null; node = node.within(root)) {
        node.pushNot();
      }
      for (Node node = deepest(); node != null; node = node.after()) {
        if (node.first != null) {
          node.takeRowsIn();
          node.dropLike();
          node.dropNeedless();
          if (node.size == 1) {
            node.become(node.first);
          }
        }
      }
    }

    void putInto(Line line) {
      line.clear();
      Node node = root;
      boolean isAhead = true;
      while (node != null) {
        if (isAhead) {
          node.putAhead(line);
        }
        if (isAhead && node.first != null) {
          node = node.first;
        } else {
          node.putBehind(line);
          isAhead = node.next != null;
          if (isAhead) {
            line.put(node.parent != null && node.parent.kind == Node.ALL ? '&' : '|');
          }
          node = isAhead ? node.next : node.parent;
        }
      }
    }
  }

  /** Reads questions; the place is always that of the first sign that was not taken, the fault if one is there. */
  private static final class Asker {
    private static final int MOST_NUMBER = 3;
    private Line line = null;
    private Question question = null;
    private int place = 0;
    private int depth = 0;
    /** The row of terms that is read; its parent is the row of choices in which it stands. */
    private Node terms = null;

    /** Answers how many units the question has, or -1 less the fault. */
    int read(Line line, Question question) {
      this.line = line;
      this.question = question;
      place = 0;
      depth = 0;
      terms = null;
      question.clear();
      open(false);
      for (int turn = 0; turn <= LONGEST_LINE; turn++) {
        boolean isNot = take('!');
        if (take('(')) {
          open(isNot);
          depth++;
        } else {
          if (!readTerm(isNot) || !closeAll()) {
            return -1 - place;
          }
          if (place == line.size() && depth == 0) {
            question.rootAt(closeRow());
            return question.countUnits();
          }
          if (take('|')) {
            endChoice();
          } else if (!take('&')) {
            return -1 - place;
          }
        }
      }
      return -1 - place;
    }

    private boolean take(char sign) {
      boolean isThat = line.at(place) == sign;
      if (isThat) {
        place++;
      }
      return isThat;
    }

    /** Begins a row of choices; what stands around it is its parent until it is closed. */
    private void open(boolean isNot) {
      Node choices = question.fresh(Node.ANY);
      choices.isNot = isNot;
      choices.parent = terms;
      beginTerms(choices);
    }

    private void beginTerms(Node choices) {
      terms = question.fresh(Node.ALL);
      terms.parent = choices;
    }

    /** Puts the row of terms to its choices, one term as itself; answers the choices. */
    private Node putTerms() {
      Node choices = terms.parent;
      if (choices != null) {
        choices.put(terms.size == 1 && terms.first != null ? terms.first : terms);
      }
      return choices;
    }

    private void endChoice() {
      Node choices = putTerms();
      if (choices != null) {
        beginTerms(choices);
      }
    }

    /** Ends the row of choices that is read, and answers it, or its one choice with what stands around it. */
    private Node closeRow() {
      Node choices = putTerms();
      if (choices == null) {
        return terms;
      }
      if (choices.parent != null) {
        terms = choices.parent;
      }
      if (choices.size != 1 || choices.first == null) {
        return choices;
      }
      Node only = choices.first;
      if (!choices.isNot && choices.weight == 1) {
        return only;
      }
      if (only.isNot || only.weight > 1) {
        return choices;
      }
      only.isNot = choices.isNot;
      only.weight = choices.weight;
      return only;
    }

    /** Reads all closing parentheses that stand here, with their weights. */
    private boolean closeAll() {
      while (depth > 0 && take(')')) {
        Node choices = terms.parent;
        if (choices == null || !readWeight(choices)) {
          return false;
        }
        Node closed = closeRow();
        terms.put(closed);
        depth--;
      }
      return true;
    }

    private boolean readTerm(boolean isNot) {
      Node unit = question.fresh(Node.WORD);
      unit.isNot = isNot;
      if (!readUnit(unit) || !readWeight(unit)) {
        return false;
      }
      terms.put(unit);
      return true;
    }

    private boolean readWeight(Node node) {
      if (!take('^')) {
        return true;
      }
      char digit = line.at(place);
      if (digit < '1' || digit > '9') {
        return false;
      }
      place++;
      node.weight = digit - '0';
      return true;
    }

    private boolean readUnit(Node unit) {
      if (take('[')) {
        return readValues(unit);
      }
      if (take('<')) {
        unit.where = Node.IN_TITLE;
      } else if (take('>')) {
        unit.where = Node.IN_BODY;
      }
      if (take('"')) {
        return readPhrase(unit);
      }
      return take('{') ? readNearness(unit) : readWordUnit(unit);
    }

    private boolean readValues(Node unit) {
      unit.kind = Node.VALUES;
      unit.low = readNumber();
      if (unit.low < 0 || !take('-')) {
        return false;
      }
      unit.high = readNumber();
      return unit.high >= 0 && take(']');
    }

    /** Answers -1 if no number stands here. */
    private int readNumber() {
      int number = -1;
      for (int i = 0; i < MOST_NUMBER; i++) {
        char digit = line.at(place);
        if (digit < '0' || digit > '9') {
          return number;
        }
        number = (number < 0 ? 0 : number * 10) + (digit - '0');
        place++;
      }
      return number;
    }

    private boolean readPhrase(Node unit) {
      unit.kind = Node.PHRASE;
      long word = readWord();
      unit.row.put(Words.shorten(word));
      for (int i = 0; i < line.size() && word != 0 && take(' '); i++) {
        word = readWord();
        unit.row.put(Words.shorten(word));
      }
      return word != 0 && take('"');
    }

    private boolean readNearness(Node unit) {
      unit.kind = Node.NEARNESS;
      char digit = line.at(place);
      if (digit < '0' || digit > '9') {
        return false;
      }
      place++;
      unit.low = digit - '0';
      boolean hasWord = true;
      for (int i = 0; i < line.size() && hasWord && take(' '); i++) {
        long word = readWord();
        unit.row.put(Words.shorten(word));
        hasWord = word != 0;
      }
      return hasWord && unit.row.size() >= 2 && take('}');
    }

    private boolean readWordUnit(Node unit) {
      long word = readWord();
      if (word == 0) {
        return false;
      }
      if (take('*')) {
        unit.kind = Node.BEGINNING;
      } else if (take('~')) {
        unit.kind = Node.SLIP;
      } else {
        word = Words.shorten(word);
      }
      unit.row.put(word);
      return true;
    }

    /** Reads a word of at most twelve signs; answers 0 if none stands here. */
    private long readWord() {
      int from = place;
      int end = line.wordEnd(from);
      place = end - from > Words.MOST_SIGNS ? from + Words.MOST_SIGNS : end;
      return line.wordAt(from, place);
    }
  }

  /** A number of at most 96 digits, not below 0. */
  private static final class Big {
    private static final int MOST_LIMBS = 16;
    private static final long BASE = 1000000L;
    private static final int MOST_STEPS = 100;
    /** The lowest one first. */
    private final long[] limbs = new long[MOST_LIMBS];

    void setTo(long number) {
      long rest = number;
      for (int i = 0; i < limbs.length; i++) {
        limbs[i] = rest % BASE;
        rest /= BASE;
      }
    }

    void copyFrom(Big other) {
      System.arraycopy(other.limbs, 0, limbs, 0, MOST_LIMBS);
    }

    void times(long factor) {
      long carry = 0;
      for (int i = 0; i < limbs.length; i++) {
        long sum = limbs[i] * factor + carry;
        limbs[i] = sum % BASE;
        carry = sum / BASE;
      }
    }

    void plus(Big other) {
      long carry = 0;
      for (int i = 0; i < limbs.length && i < other.limbs.length; i++) {
        long sum = limbs[i] + other.limbs[i] + carry;
        limbs[i] = sum % BASE;
        carry = sum / BASE;
      }
    }

    boolean isAbove(Big other) {
      for (int i = limbs.length - 1; i >= 0; i--) {
        if (i < other.limbs.length && limbs[i] != other.limbs[i]) {
          return limbs[i] > other.limbs[i];
        }
      }
      return false;
    }

    /** Divides both by their greatest common divisor, and answers what is left of the other one. */
    long reduceBy(long divisor) {
      long common = divisor;
      long rest = divideBy(divisor, false);
      for (int i = 0; i < MOST_STEPS && rest > 0; i++) {
        long behind = common % rest;
        common = rest;
        rest = behind;
      }
      divideBy(common, true);
      return common > 0 ? divisor / common : divisor;
    }

    /** Answers the rest of a division, and is the quotient then, if that is kept. */
    private long divideBy(long divisor, boolean isKept) {
      long rest = 0;
      for (int i = limbs.length - 1; i >= 0 && divisor > 0; i--) {
        long part = rest * BASE + limbs[i];
        rest = part % divisor;
        if (isKept) {
          limbs[i] = part / divisor;
        }
      }
      return rest;
    }

    void putInto(Line line) {
      int highest = limbs.length - 1;
      while (highest > 0 && limbs[highest] == 0) {
        highest--;
      }
      line.putNumber(limbs[highest]);
      for (int i = highest - 1; i >= 0; i--) {
        line.putDigits(limbs[i], BASE / 10);
      }
    }
  }

  /** Reads texts word by word for a question, and finds the first ones by their worth. */
  private static final class Finder {
    /** The least number that can be divided by 1 to 25, so that all worths are told in parts of it. */
    private static final long COMMON = 26771144400L;
    private static final int TITLE_SHARE = 3;
    private final Big[] worths = new Big[MOST_TEXTS];
    private final int[] sizes = new int[MOST_TEXTS];
    private final int[] order = new int[MOST_TEXTS];
    private final int[] firstOnes = new int[MOST_FIRST];
    private int found = 0;
    private final Big share = new Big();
    private final Big one = new Big();
    private final Big other = new Big();
    private int begin = 0;
    private int width = 0;

    Finder() {
      for (int i = 0; i < worths.length; i++) {
        worths[i] = new Big();
      }
    }

    int found() {
      return found;
    }

    int numberAt(int rank) {
      return rank >= 0 && rank < found && rank < order.length ? order[rank] : -1;
    }

    int begin() {
      return begin;
    }

    int width() {
      return width;
    }

    boolean isFit(Question question, Text text) {
      for (Node node = question.deepest(); node != null; node = node.after()) {
        boolean isFit = node.first == null ? isUnitFit(node, text) : node.isRowFit();
        node.isFit = isFit != node.isNot;
      }
      Node root = question.root();
      return root != null && root.isFit;
    }

    private boolean isUnitFit(Node unit, Text text) {
      if (unit.kind == Node.VALUES) {
        return text.value >= unit.low && text.value <= unit.high;
      }
      if (unit.kind == Node.NEARNESS) {
        return unit.where != Node.IN_BODY && isNear(unit, text.title)
            || unit.where != Node.IN_TITLE && isNear(unit, text.body);
      }
      return unit.where != Node.IN_BODY && countPlaces(unit, text.title) > 0
          || unit.where != Node.IN_TITLE && countPlaces(unit, text.body) > 0;
    }

    private boolean isNear(Node unit, Row row) {
      for (int from = 0; from < row.size(); from++) {
        int near = 0;
        while (near < unit.row.size() && row.hasFrom(unit.row.at(near), from, from + unit.low)) {
          near++;
        }
        if (near == unit.row.size()) {
          return true;
        }
      }
      return false;
    }

    private int countPlaces(Node unit, Row row) {
      int count = 0;
      for (int place = 0; place < row.size(); place++) {
        if (isAt(unit, 0, row, place)) {
          count++;
        }
      }
      return count;
    }

    /** Tells whether a unit, or that word of a nearness, has a spot that begins at a place. */
    private boolean isAt(Node unit, int word, Row row, int place) {
      switch (unit.kind) {
        case Node.BEGINNING:
          return Words.begins(row.at(place), unit.row.at(0));
        case Node.SLIP:
          return Words.isSlip(row.at(place), unit.row.at(0));
        case Node.PHRASE:
          return row.hasRow(unit.row, place);
        default:
          return row.at(place) == unit.row.at(word);
      }
    }

    int count(Question question, Shelf shelf, char tag, int low, int high) {
      int count = 0;
      for (int i = 0; i < MOST_TEXTS; i++) {
        Text text = shelf.at(i);
        if (text != null && (tag == ANY_TAG || text.tag == tag) && text.value >= low && text.value <= high
            && isFit(question, text)) {
          count++;
        }
      }
      return count;
    }

    /** Finds the first texts that fit, in their order, and keeps no more of them than told. */
    void find(Question question, Shelf shelf, int most) {
      found = 0;
      countFitting(question, shelf);
      for (int i = 0; i < MOST_TEXTS && i < worths.length; i++) {
        Text text = shelf.at(i);
        if (text != null && isFit(question, text)) {
          weigh(question, text, worths[i]);
          sizes[i] = text.size();
          settle(i, most);
        }
      }
    }

    /** Puts a text to its place in the order, if it is among the first ones. */
    private void settle(int number, int most) {
      int place = found;
      while (place > 0 && isAhead(number, numberAt(place - 1))) {
        place--;
      }
      if (place >= most || place >= order.length) {
        return;
      }
      if (found < most && found < order.length) {
        found++;
      }
      for (int i = found - 1; i > place; i--) {
        order[i] = order[i - 1];
      }
      order[place] = number;
    }

    private boolean isAhead(int number, int than) {
      if (number < 0 || than < 0 || number >= worths.length || than >= worths.length) {
        return false;
      }
      one.copyFrom(worths[number]);
      one.times(sizes[than] + 1);
      other.copyFrom(worths[than]);
      other.times(sizes[number] + 1);
      return one.isAbove(other);
    }

    /** Counts for each unit how many texts fit it alone. */
    private void countFitting(Question question, Shelf shelf) {
      for (Node node = question.deepest(); node != null; node = node.after()) {
        node.fitting = 0;
        for (int i = 0; i < MOST_TEXTS && node.first == null; i++) {
          Text text = shelf.at(i);
          if (text != null && isUnitFit(node, text)) {
            node.fitting++;
          }
        }
      }
    }

    /** Sums up the worth of a text, without what all texts share, and not yet divided by its length. */
    private void weigh(Question question, Text text, Big sum) {
      sum.setTo(0);
      for (Node unit = question.deepest(); unit != null; unit = unit.after()) {
        if (unit.kind <= Node.PHRASE && unit.isItem() && unit.fitting > 0) {
          long inTitle = unit.where == Node.IN_BODY ? 0 : countPlaces(unit, text.title);
          long inBody = unit.where == Node.IN_TITLE ? 0 : countPlaces(unit, text.body);
          share.setTo(TITLE_SHARE * inTitle + inBody);
          share.times(COMMON / (unit.fitting + 1));
          for (Node holder = unit; holder != null; holder = holder.parent) {
            share.times(holder.weight);
          }
          sum.plus(share);
        }
      }
    }

    void putWorth(Question question, Shelf shelf, Text text, Line line) {
      countFitting(question, shelf);
      weigh(question, text, one);
      one.times(shelf.count() + 1);
      // The divisor goes in two steps, for as a whole it is too long for the numbers by which a Big can be divided.
      long below = one.reduceBy(COMMON);
      below *= one.reduceBy(text.size() + 1);
      line.clear();
      one.putInto(line);
      line.put('/');
      line.putNumber(below);
    }

    /** Finds the span of a body; answers false if no item has a spot there. */
    boolean findSpan(Question question, Row body) {
      width = 0;
      for (int from = 0; from < body.size(); from++) {
        int end = spanEnd(question, body, from);
        if (end >= from && (width == 0 || end - from + 1 < width)) {
          begin = from;
          width = end - from + 1;
        }
      }
      return width > 0;
    }

    /** The last place of the least span that begins at a place, or -1 if there is none. */
    private int spanEnd(Question question, Row body, int from) {
      int end = -1;
      for (Node unit = question.deepest(); unit != null; unit = unit.after()) {
        if (unit.isItem() && unit.where != Node.IN_TITLE) {
          int items = unit.kind == Node.NEARNESS ? unit.row.size() : 1;
          for (int item = 0; item < items; item++) {
            int spot = spotEnd(unit, item, body, from);
            if (spot < 0 && spotEnd(unit, item, body, 0) >= 0) {
              return -1;
            }
            end = Math.max(end, spot);
          }
        }
      }
      return end;
    }

    /** The last place of the first spot of an item from a place on, or -1 if there is none. */
    private int spotEnd(Node unit, int item, Row body, int from) {
      for (int place = from; place < body.size(); place++) {
        if (isAt(unit, item, body, place)) {
          return unit.kind == Node.PHRASE ? place + unit.row.size() - 1 : place;
        }
      }
      return -1;
    }

    boolean isSame(Question question, Shelf shelf, Question otherQuestion, Shelf otherShelf) {
      for (int i = 0; i < MOST_TEXTS; i++) {
        Text text = shelf.at(i);
        Text otherText = otherShelf.at(i);
        if (text != null && (otherText == null || isFit(question, text) != isFit(otherQuestion, otherText))) {
          return false;
        }
      }
      return true;
    }

    /** Tells whether the first texts, found early, are the first ones of all. */
    boolean areFirstOnes(Question question, Shelf shelf, int most) {
      find(question, shelf, most);
      int early = found;
      for (int i = 0; i < early && i < firstOnes.length; i++) {
        firstOnes[i] = numberAt(i);
      }
      find(question, shelf, MOST_TEXTS);
      if (early != Math.min(found, most)) {
        return false;
      }
      for (int i = 0; i < early && i < firstOnes.length; i++) {
        if (firstOnes[i] != numberAt(i)) {
          return false;
        }
      }
      return true;
    }
  }
}
