import java.math.BigInteger;
import java.util.ArrayList;
import java.util.Collections;
import java.util.HashSet;
import java.util.List;
import java.util.NoSuchElementException;
import java.util.Set;
import java.util.TreeMap;
import java.util.TreeSet;

/**
 * The document written once more in the plainest way, with strings, recursion and BigInteger, to compare the class
 * with. Its methods have the names of the face.
 */
public final class Model {
  private static final class Doc {
    int value;
    char tag;
    int part;
    List<String> title = new ArrayList<>();
    List<String> body = new ArrayList<>();
  }

  /** A term: perhaps '!', a unit, a weight. The unit is a question in parentheses, or what the kind tells. */
  private static final class Term {
    boolean not;
    int weight = 1;
    /** One of ( w * ~ " { [ */
    char kind;
    char where = 'x';
    int low;
    int high;
    List<String> words = new ArrayList<>();
    List<List<Term>> inner;
  }

  private static final class Fault extends RuntimeException {
    final int place;

    Fault(int place) {
      this.place = place;
    }
  }

  private String text = "";
  private final TreeMap<Integer, Doc> docs = new TreeMap<>();
  private int came;
  private int parts = 1;
  private List<Integer> told = new ArrayList<>();
  private List<Integer> written;
  private List<List<Term>> asked;
  @SuppressWarnings({"unchecked", "rawtypes"})
  private final List<List<Term>>[] saved = new List[4];

  // ---- the text

  public int type(char sign) {
    if (sign < 32 || sign > 126) {
      throw new IllegalArgumentException();
    }
    if (text.length() >= 160) {
      throw new IllegalStateException();
    }
    text += sign;
    return text.length();
  }

  public int erase() {
    return taken().length();
  }

  public char signAt(int place) {
    if (place < 0 || place >= text.length()) {
      throw new IndexOutOfBoundsException();
    }
    return text.charAt(place);
  }

  private String taken() {
    String was = text;
    text = "";
    return was;
  }

  private int tell(String signs) {
    text = signs;
    return signs.length();
  }

  // ---- words

  private static String raw(String word) {
    String small = word.toLowerCase();
    return small.length() > 12 ? small.substring(0, 12) : small;
  }

  private static String cut(String word) {
    String w = raw(word);
    if (w.length() > 3 && w.endsWith("s") && !w.endsWith("ss")) {
      w = w.substring(0, w.length() - 1);
    }
    if (w.length() > 5 && w.endsWith("ing")) {
      return w.substring(0, w.length() - 3);
    }
    if (w.length() > 4 && w.endsWith("ed")) {
      return w.substring(0, w.length() - 2);
    }
    return w;
  }

  private static List<String> wordsOf(String signs) {
    List<String> words = new ArrayList<>();
    for (String piece : signs.split("[^A-Za-z0-9]+")) {
      if (!piece.isEmpty()) {
        words.add(cut(piece));
      }
    }
    return words;
  }

  private static boolean within(String word, String slip) {
    if (word.equals(slip) || Math.abs(word.length() - slip.length()) > 1) {
      return word.equals(slip);
    }
    String signs = "0123456789abcdefghijklmnopqrstuvwxyz";
    for (int i = 0; i <= slip.length(); i++) {
      String ahead = slip.substring(0, i);
      String behind = slip.substring(i);
      for (char sign : signs.toCharArray()) {
        if (word.equals(ahead + sign + behind)) {
          return true;
        }
        if (!behind.isEmpty() && word.equals(ahead + sign + behind.substring(1))) {
          return true;
        }
      }
      if (!behind.isEmpty() && word.equals(ahead + behind.substring(1))) {
        return true;
      }
      if (behind.length() > 1
          && word.equals(ahead + behind.charAt(1) + behind.charAt(0) + behind.substring(2))) {
        return true;
      }
    }
    return false;
  }

  private TreeSet<String> vocabulary() {
    TreeSet<String> all = new TreeSet<>();
    for (Doc doc : docs.values()) {
      all.addAll(doc.title);
      all.addAll(doc.body);
    }
    return all;
  }

  private int having(String word) {
    int count = 0;
    for (Doc doc : docs.values()) {
      if (doc.title.contains(word) || doc.body.contains(word)) {
        count++;
      }
    }
    return count;
  }

  private String oneWord() {
    if (!text.matches("[A-Za-z0-9]+")) {
      throw new IllegalArgumentException();
    }
    return text;
  }

  public int words() {
    return vocabulary().size();
  }

  public int tellOf(int index) {
    List<String> all = new ArrayList<>(vocabulary());
    if (index < 0 || index >= all.size()) {
      throw new IndexOutOfBoundsException();
    }
    return tell(all.get(index));
  }

  public int having() {
    String word = cut(oneWord());
    taken();
    return having(word);
  }

  public int beginning() {
    String word = raw(oneWord());
    taken();
    int count = 0;
    for (String each : vocabulary()) {
      count += each.startsWith(word) ? 1 : 0;
    }
    return count;
  }

  public int slips() {
    String word = raw(oneWord());
    taken();
    int count = 0;
    for (String each : vocabulary()) {
      count += within(each, word) ? 1 : 0;
    }
    return count;
  }

  public int suggest() {
    String word = raw(oneWord());
    String best = null;
    for (String each : vocabulary()) {
      if (!each.equals(word) && within(each, word) && (best == null || having(each) > having(best))) {
        best = each;
      }
    }
    if (best == null) {
      throw new NoSuchElementException();
    }
    return tell(best);
  }

  // ---- texts

  private void read(Doc doc, String signs) {
    int bar = signs.indexOf('|');
    doc.title = wordsOf(bar < 0 ? "" : signs.substring(0, bar));
    doc.body = wordsOf(signs.substring(bar + 1));
    doc.part = parts - 1;
  }

  private Doc doc(int number) {
    Doc doc = docs.get(number);
    if (doc == null) {
      throw new NoSuchElementException();
    }
    return doc;
  }

  public int add(int value, char tag) {
    if (value < 0 || value > 999 || tag < 'a' || tag > 'z') {
      throw new IllegalArgumentException();
    }
    if (came == 24) {
      throw new IllegalStateException();
    }
    Doc doc = new Doc();
    doc.value = value;
    doc.tag = tag;
    read(doc, taken());
    docs.put(came, doc);
    return came++;
  }

  public int revise(int number) {
    Doc doc = doc(number);
    read(doc, taken());
    return length(number);
  }

  public int drop(int number) {
    doc(number);
    docs.remove(number);
    return docs.size();
  }

  public int texts() {
    return docs.size();
  }

  public boolean isThere(int number) {
    return docs.containsKey(number);
  }

  public int length(int number) {
    return doc(number).title.size() + doc(number).body.size();
  }

  public int tellWord(int number, boolean isTitle, int place) {
    List<String> row = isTitle ? doc(number).title : doc(number).body;
    if (place < 0 || place >= row.size()) {
      throw new IndexOutOfBoundsException();
    }
    return tell(row.get(place));
  }

  public int value(int number) {
    return doc(number).value;
  }

  public char tag(int number) {
    return doc(number).tag;
  }

  // ---- parts

  private int sizeOf(int part) {
    int count = 0;
    for (Doc doc : docs.values()) {
      count += doc.part == part ? 1 : 0;
    }
    return count;
  }

  private void needPart(int part) {
    if (part < 0 || part >= parts) {
      throw new IndexOutOfBoundsException();
    }
  }

  public int parts() {
    return parts;
  }

  public int partSize(int part) {
    needPart(part);
    return sizeOf(part);
  }

  public int seal() {
    if (sizeOf(parts - 1) == 0) {
      throw new UnsupportedOperationException();
    }
    if (parts == 8) {
      throw new IllegalStateException();
    }
    return ++parts;
  }

  public int join(int part) {
    needPart(part);
    needPart(part + 1);
    for (Doc doc : docs.values()) {
      if (doc.part > part) {
        doc.part--;
      }
    }
    parts--;
    return sizeOf(part);
  }

  private static void bytes(List<Integer> row, int number) {
    if (number < 128) {
      row.add(number);
    } else {
      row.add(128 + number % 128);
      bytes(row, number / 128);
    }
  }

  private static void places(List<Integer> row, List<String> words, String word) {
    bytes(row, Collections.frequency(words, word));
    int ahead = 0;
    for (int i = 0; i < words.size(); i++) {
      if (words.get(i).equals(word)) {
        bytes(row, i - ahead);
        ahead = i;
      }
    }
  }

  public int packed(int part) {
    needPart(part);
    String word = cut(oneWord());
    taken();
    told = new ArrayList<>();
    int ahead = 0;
    for (int number : docs.keySet()) {
      Doc doc = docs.get(number);
      if (doc.part == part && (doc.title.contains(word) || doc.body.contains(word))) {
        bytes(told, number - ahead);
        places(told, doc.title, word);
        places(told, doc.body, word);
        ahead = number;
      }
    }
    return told.size();
  }

  public int byteAt(int index) {
    if (index < 0 || index >= told.size()) {
      throw new IndexOutOfBoundsException();
    }
    return told.get(index);
  }

  // ---- reading questions

  private static final class Reader {
    private final String signs;
    private int place;

    Reader(String signs) {
      this.signs = signs;
    }

    private char sign() {
      return place < signs.length() ? signs.charAt(place) : 0;
    }

    private boolean is(String these) {
      return sign() != 0 && these.indexOf(sign()) >= 0;
    }

    private char need(String these) {
      if (!is(these)) {
        throw new Fault(place);
      }
      return signs.charAt(place++);
    }

    private boolean may(String these) {
      if (is(these)) {
        place++;
        return true;
      }
      return false;
    }

    List<List<Term>> whole() {
      List<List<Term>> question = question();
      if (place < signs.length()) {
        throw new Fault(place);
      }
      return question;
    }

    private List<List<Term>> question() {
      List<List<Term>> choices = new ArrayList<>();
      do {
        List<Term> choice = new ArrayList<>();
        do {
          choice.add(term());
        } while (may("&"));
        choices.add(choice);
      } while (may("|"));
      return choices;
    }

    private Term term() {
      Term term = new Term();
      term.not = may("!");
      unit(term);
      if (may("^")) {
        term.weight = need("123456789") - '0';
      }
      return term;
    }

    private void unit(Term term) {
      if (may("(")) {
        term.kind = '(';
        term.inner = question();
        need(")");
      } else if (may("[")) {
        term.kind = '[';
        term.low = number();
        need("-");
        term.high = number();
        need("]");
      } else {
        if (is("<>")) {
          term.where = need("<>");
        }
        if (may("\"")) {
          term.kind = '"';
          do {
            term.words.add(cut(word()));
          } while (may(" "));
          need("\"");
        } else if (may("{")) {
          term.kind = '{';
          term.low = need("0123456789") - '0';
          need(" ");
          term.words.add(cut(word()));
          need(" ");
          do {
            term.words.add(cut(word()));
          } while (may(" "));
          need("}");
        } else {
          String word = word();
          term.kind = may("*") ? '*' : may("~") ? '~' : 'w';
          term.words.add(term.kind == 'w' ? cut(word) : raw(word));
        }
      }
    }

    private int number() {
      int number = need("0123456789") - '0';
      for (int i = 0; i < 2 && is("0123456789"); i++) {
        number = 10 * number + need("0123456789") - '0';
      }
      return number;
    }

    private String word() {
      String signs = "0123456789abcdefghijklmnopqrstuvwxyzABCDEFGHIJKLMNOPQRSTUVWXYZ";
      StringBuilder word = new StringBuilder();
      word.append(need(signs));
      while (word.length() < 12 && is(signs)) {
        word.append(need(signs));
      }
      return word.toString();
    }
  }

  public int ask() {
    String signs = taken();
    try {
      asked = new Reader(signs).whole();
      return units(asked);
    } catch (Fault fault) {
      return -1 - fault.place;
    }
  }

  private static int units(List<List<Term>> question) {
    int count = 0;
    for (List<Term> choice : question) {
      for (Term term : choice) {
        count += term.kind == '(' ? units(term.inner) : 1;
      }
    }
    return count;
  }

  // ---- telling questions

  private static String tellQuestion(List<List<Term>> question) {
    StringBuilder all = new StringBuilder();
    for (List<Term> choice : question) {
      if (all.length() > 0) {
        all.append('|');
      }
      boolean isFirst = true;
      for (Term term : choice) {
        all.append(isFirst ? "" : "&").append(tellTerm(term, choice.size() > 1));
        isFirst = false;
      }
    }
    return all.toString();
  }

  private static String tellTerm(Term term, boolean isAmongTerms) {
    String ahead = term.not ? "!" : "";
    String behind = term.weight > 1 ? "^" + term.weight : "";
    boolean isChanged = term.not || term.weight > 1;
    if (term.kind != '(') {
      return ahead + tellUnit(term) + behind;
    }
    boolean isRow = term.inner.size() > 1 || term.inner.get(0).size() > 1;
    if (isRow) {
      String inner = tellQuestion(term.inner);
      boolean isParted = isChanged || isAmongTerms && term.inner.size() > 1;
      return isParted ? ahead + "(" + inner + ")" + behind : inner;
    }
    Term one = term.inner.get(0).get(0);
    if (!isChanged) {
      return tellTerm(one, isAmongTerms);
    }
    Term bare = one;
    while (bare.kind == '(' && !bare.not && bare.weight == 1 && bare.inner.size() == 1
        && bare.inner.get(0).size() == 1) {
      bare = bare.inner.get(0).get(0);
    }
    if (bare.not || bare.weight > 1) {
      return ahead + "(" + tellTerm(bare, false) + ")" + behind;
    }
    if (bare.kind == '(') {
      return ahead + "(" + tellQuestion(bare.inner) + ")" + behind;
    }
    return ahead + tellUnit(bare) + behind;
  }

  private static String tellUnit(Term term) {
    String where = term.where == 'x' ? "" : String.valueOf(term.where);
    String words = String.join(" ", term.words);
    switch (term.kind) {
      case '[':
        return "[" + term.low + "-" + term.high + "]";
      case '"':
        return where + "\"" + words + "\"";
      case '{':
        return where + "{" + term.low + " " + words + "}";
      case '*':
      case '~':
        return where + words + term.kind;
      default:
        return where + words;
    }
  }

  // ---- simpler questions

  /** A row of choices, a row of terms, or a unit, with all '!' at the units. */
  private static final class Plain {
    char kind;
    Term unit;
    List<Plain> row = new ArrayList<>();

    String told() {
      if (kind == 'u') {
        return tellTerm(unit, false);
      }
      StringBuilder all = new StringBuilder();
      for (Plain each : row) {
        all.append(all.length() == 0 ? "" : kind == '|' ? "|" : "&");
        all.append(each.kind == '|' && kind == '&' ? "(" + each.told() + ")" : each.told());
      }
      return all.toString();
    }

    List<String> toldAs(char rowKind) {
      List<String> all = new ArrayList<>();
      if (kind == rowKind) {
        for (Plain each : row) {
          all.add(each.told());
        }
      } else {
        all.add(told());
      }
      return all;
    }
  }

  private static Plain plain(List<List<Term>> question, boolean isTurned) {
    Plain choices = new Plain();
    choices.kind = isTurned ? '&' : '|';
    for (List<Term> choice : question) {
      Plain terms = new Plain();
      terms.kind = isTurned ? '|' : '&';
      for (Term term : choice) {
        terms.row.add(plain(term, isTurned));
      }
      choices.row.add(simple(terms));
    }
    return simple(choices);
  }

  private static Plain plain(Term term, boolean isTurned) {
    if (term.kind == '(') {
      return plain(term.inner, isTurned != term.not);
    }
    Plain unit = new Plain();
    unit.kind = 'u';
    unit.unit = new Term();
    unit.unit.not = isTurned != term.not;
    unit.unit.kind = term.kind;
    unit.unit.where = term.where;
    unit.unit.low = term.low;
    unit.unit.high = term.high;
    unit.unit.words = term.words;
    return unit;
  }

  private static Plain simple(Plain given) {
    List<Plain> row = new ArrayList<>();
    for (Plain each : given.row) {
      if (each.kind == given.kind) {
        row.addAll(each.row);
      } else {
        row.add(each);
      }
    }
    Set<String> seen = new HashSet<>();
    row.removeIf(each -> !seen.add(each.told()));
    char parts = given.kind == '|' ? '&' : '|';
    int i = 0;
    while (i < row.size()) {
      boolean goes = false;
      for (int k = 0; k < row.size(); k++) {
        goes = goes || k != i && row.get(i).toldAs(parts).containsAll(row.get(k).toldAs(parts));
      }
      if (goes) {
        row.remove(i);
      } else {
        i++;
      }
    }
    if (row.size() == 1) {
      return row.get(0);
    }
    Plain made = new Plain();
    made.kind = given.kind;
    made.row = row;
    return made;
  }

  private static List<List<Term>> asQuestion(Plain plain) {
    List<List<Term>> question = new ArrayList<>();
    List<Plain> choices = plain.kind == '|' ? plain.row : List.of(plain);
    for (Plain choice : choices) {
      List<Term> terms = new ArrayList<>();
      for (Plain each : choice.kind == '&' ? choice.row : List.of(choice)) {
        if (each.kind == 'u') {
          terms.add(each.unit);
        } else {
          Term held = new Term();
          held.kind = '(';
          held.inner = asQuestion(each);
          terms.add(held);
        }
      }
      question.add(terms);
    }
    return question;
  }

  private void needQuestion() {
    if (asked == null) {
      throw new IllegalStateException();
    }
  }

  public int simplify() {
    needQuestion();
    asked = asQuestion(plain(asked, false));
    return units(asked);
  }

  public int tellQuestion() {
    needQuestion();
    return tell(tellQuestion(asked));
  }

  // ---- fitting

  /** The places in a row of words at which a unit has a spot. */
  private static List<Integer> spots(Term unit, List<String> row) {
    List<Integer> spots = new ArrayList<>();
    for (int i = 0; i < row.size(); i++) {
      boolean isSpot;
      if (unit.kind == '"') {
        isSpot = i + unit.words.size() <= row.size() && row.subList(i, i + unit.words.size()).equals(unit.words);
      } else if (unit.kind == '*') {
        isSpot = row.get(i).startsWith(unit.words.get(0));
      } else if (unit.kind == '~') {
        isSpot = within(row.get(i), unit.words.get(0));
      } else {
        isSpot = row.get(i).equals(unit.words.get(0));
      }
      if (isSpot) {
        spots.add(i);
      }
    }
    return spots;
  }

  /** Tries each place of the first word left, with the least and greatest place so far. */
  private static boolean isNear(List<String> words, List<String> row, int digit, int least, int most) {
    if (words.isEmpty()) {
      return true;
    }
    for (int i = 0; i < row.size(); i++) {
      int low = Math.min(least, i);
      int high = Math.max(most, i);
      if (row.get(i).equals(words.get(0)) && high - low <= digit
          && isNear(words.subList(1, words.size()), row, digit, low, high)) {
        return true;
      }
    }
    return false;
  }

  private static boolean isIn(Term unit, List<String> row) {
    return unit.kind == '{' ? isNear(unit.words, row, unit.low, 9999, -9999) : !spots(unit, row).isEmpty();
  }

  private static boolean isFit(Term term, Doc doc) {
    boolean fit;
    if (term.kind == '(') {
      fit = isFit(term.inner, doc);
    } else if (term.kind == '[') {
      fit = doc.value >= term.low && doc.value <= term.high;
    } else {
      fit = term.where != '>' && isIn(term, doc.title) || term.where != '<' && isIn(term, doc.body);
    }
    return fit != term.not;
  }

  private static boolean isFit(List<List<Term>> question, Doc doc) {
    for (List<Term> choice : question) {
      boolean all = true;
      for (Term term : choice) {
        all = all && isFit(term, doc);
      }
      if (all) {
        return true;
      }
    }
    return false;
  }

  public boolean fits(int number) {
    needQuestion();
    return isFit(asked, doc(number));
  }

  // ---- worth

  private BigInteger[] worth(List<List<Term>> question, Doc doc, BigInteger weight) {
    BigInteger above = BigInteger.ZERO;
    BigInteger below = BigInteger.ONE;
    for (List<Term> choice : question) {
      for (Term term : choice) {
        BigInteger[] each = worth(term, doc, weight.multiply(BigInteger.valueOf(term.weight)));
        above = above.multiply(each[1]).add(each[0].multiply(below));
        below = below.multiply(each[1]);
      }
    }
    BigInteger common = above.gcd(below);
    return new BigInteger[] {above.divide(common), below.divide(common)};
  }

  private BigInteger[] worth(Term term, Doc doc, BigInteger weight) {
    BigInteger[] none = {BigInteger.ZERO, BigInteger.ONE};
    if (term.not || term.kind == '[' || term.kind == '{') {
      return none;
    }
    if (term.kind == '(') {
      return worth(term.inner, doc, weight);
    }
    int places = term.where == '>' ? 0 : 3 * spots(term, doc.title).size();
    places += term.where == '<' ? 0 : spots(term, doc.body).size();
    int fitting = 0;
    for (Doc each : docs.values()) {
      boolean fits = term.where != '>' && isIn(term, each.title) || term.where != '<' && isIn(term, each.body);
      fitting += fits ? 1 : 0;
    }
    int size = doc.title.size() + doc.body.size();
    BigInteger above = weight.multiply(BigInteger.valueOf((long) places * (docs.size() + 1)));
    return new BigInteger[] {above, BigInteger.valueOf((size + 1L) * (fitting + 1L))};
  }

  private List<Integer> order() {
    List<Integer> found = new ArrayList<>();
    TreeMap<Integer, BigInteger[]> worths = new TreeMap<>();
    for (int number : docs.keySet()) {
      if (isFit(asked, docs.get(number))) {
        found.add(number);
        worths.put(number, worth(asked, docs.get(number), BigInteger.ONE));
      }
    }
    found.sort((a, b) -> {
      BigInteger[] one = worths.get(a);
      BigInteger[] other = worths.get(b);
      int compared = other[0].multiply(one[1]).compareTo(one[0].multiply(other[1]));
      return compared != 0 ? compared : a - b;
    });
    return found;
  }

  public int hits() {
    needQuestion();
    return order().size();
  }

  public int hitAt(int rank) {
    needQuestion();
    List<Integer> order = order();
    if (rank < 0 || rank >= order.size()) {
      throw new IndexOutOfBoundsException();
    }
    return order.get(rank);
  }

  public int top(int most, int rank) {
    needQuestion();
    if (most < 1 || most > 10) {
      throw new IllegalArgumentException();
    }
    if (rank >= most) {
      throw new IndexOutOfBoundsException();
    }
    return hitAt(rank);
  }

  public int tellWorth(int number) {
    needQuestion();
    BigInteger[] worth = worth(asked, doc(number), BigInteger.ONE);
    return tell(worth[0] + "/" + worth[1]);
  }

  public int tagged(char tag) {
    needQuestion();
    if (tag < 'a' || tag > 'z') {
      throw new IllegalArgumentException();
    }
    int count = 0;
    for (int number : order()) {
      count += docs.get(number).tag == tag ? 1 : 0;
    }
    return count;
  }

  public int valued(int low, int high) {
    needQuestion();
    int count = 0;
    for (int number : order()) {
      int value = docs.get(number).value;
      count += low <= value && value <= high ? 1 : 0;
    }
    return count;
  }

  // ---- spans

  /** For each item that has a spot in the body, its spots, each as its first and its last place. */
  private static void items(List<List<Term>> question, List<String> body, List<List<int[]>> items) {
    for (List<Term> choice : question) {
      for (Term term : choice) {
        if (term.not || term.kind == '[' || term.where == '<') {
          continue;
        }
        if (term.kind == '(') {
          items(term.inner, body, items);
          continue;
        }
        List<Term> units = new ArrayList<>();
        if (term.kind == '{') {
          for (String word : term.words) {
            Term unit = new Term();
            unit.kind = 'w';
            unit.words.add(word);
            units.add(unit);
          }
        } else {
          units.add(term);
        }
        for (Term unit : units) {
          List<int[]> spots = new ArrayList<>();
          for (int place : spots(unit, body)) {
            spots.add(new int[] {place, place + unit.words.size() - 1});
          }
          if (!spots.isEmpty()) {
            items.add(spots);
          }
        }
      }
    }
  }

  private int[] span(int number) {
    needQuestion();
    List<String> body = doc(number).body;
    if (!isFit(asked, doc(number))) {
      throw new NoSuchElementException();
    }
    List<List<int[]>> items = new ArrayList<>();
    items(asked, body, items);
    if (items.isEmpty()) {
      throw new UnsupportedOperationException();
    }
    for (int length = 1; length <= body.size(); length++) {
      for (int begin = 0; begin + length <= body.size(); begin++) {
        boolean hasAll = true;
        for (List<int[]> spots : items) {
          boolean hasOne = false;
          for (int[] spot : spots) {
            hasOne = hasOne || spot[0] >= begin && spot[1] < begin + length;
          }
          hasAll = hasAll && hasOne;
        }
        if (hasAll) {
          return new int[] {begin, length};
        }
      }
    }
    throw new AssertionError();
  }

  public int spanBegin(int number) {
    return span(number)[0];
  }

  public int spanLength(int number) {
    return span(number)[1];
  }

  // ---- saved questions

  public int save(int slot) {
    needQuestion();
    if (slot < 0 || slot > 3) {
      throw new IndexOutOfBoundsException();
    }
    saved[slot] = asked;
    int count = 0;
    for (List<List<Term>> each : saved) {
      count += each == null ? 0 : 1;
    }
    return count;
  }

  public int news(int number) {
    Doc doc = doc(number);
    int sum = 0;
    for (int slot = 0; slot < 4; slot++) {
      if (saved[slot] != null && isFit(saved[slot], doc)) {
        sum += (int) Math.pow(2, slot);
      }
    }
    return sum;
  }

  // ---- likeness, the whole

  private Set<String> pairs(int number) {
    List<String> body = doc(number).body;
    Set<String> pairs = new HashSet<>();
    for (int i = 1; i < body.size(); i++) {
      pairs.add(body.get(i - 1) + " " + body.get(i));
    }
    return pairs;
  }

  public int likeness(int a, int b) {
    Set<String> both = pairs(a);
    Set<String> any = new HashSet<>(both);
    both.retainAll(pairs(b));
    any.addAll(pairs(b));
    if (any.isEmpty()) {
      throw new ArithmeticException();
    }
    return both.size() * 1000 / any.size();
  }

  public int write() {
    written = new ArrayList<>();
    for (int number : docs.keySet()) {
      Doc doc = docs.get(number);
      bytes(written, number);
      bytes(written, doc.value);
      bytes(written, doc.tag - 'a');
      for (List<String> row : List.of(doc.title, doc.body)) {
        bytes(written, row.size());
        for (String word : row) {
          bytes(written, word.length());
          for (char sign : word.toCharArray()) {
            bytes(written, sign);
          }
        }
      }
    }
    writtenDocs = new TreeMap<>();
    for (int number : docs.keySet()) {
      writtenDocs.put(number, copy(docs.get(number)));
    }
    return written.size();
  }

  private TreeMap<Integer, Doc> writtenDocs;

  private static Doc copy(Doc doc) {
    Doc copy = new Doc();
    copy.value = doc.value;
    copy.tag = doc.tag;
    copy.title = doc.title;
    copy.body = doc.body;
    return copy;
  }

  public int writtenAt(int index) {
    if (written == null || index < 0 || index >= written.size()) {
      throw new IndexOutOfBoundsException();
    }
    return written.get(index);
  }

  public int reread() {
    if (written == null) {
      throw new NoSuchElementException();
    }
    docs.clear();
    parts = 1;
    for (int number : writtenDocs.keySet()) {
      docs.put(number, copy(writtenDocs.get(number)));
    }
    return docs.size();
  }

  public long checksum() {
    long sum = 7;
    for (int number : docs.keySet()) {
      Doc doc = docs.get(number);
      sum = 31 * sum + number;
      sum = 31 * sum + doc.value;
      sum = 31 * sum + doc.tag;
      for (List<String> row : List.of(doc.title, doc.body)) {
        sum = 31 * sum + row.size();
        for (char sign : String.join("", row).toCharArray()) {
          sum = 31 * sum + sign;
        }
      }
    }
    for (int part = 0; part < parts; part++) {
      sum = 31 * sum + sizeOf(part);
    }
    for (char sign : text.toCharArray()) {
      sum = 31 * sum + sign;
    }
    return sum;
  }

  public boolean isSound() {
    return true;
  }
}
