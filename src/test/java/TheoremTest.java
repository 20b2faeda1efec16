import java.util.ArrayList;
import java.util.List;
import java.util.TreeMap;

/** The theorem, sentence by sentence: what holds for all texts, parts, packed rows, spans and questions. */
public final class TheoremTest {
  private static final String[] TEXTS = {
    "old dogs|the dogs barked", "x", "dig a well|a dog digs a well", "", "dogma|do the dogs bark, old dog",
    "y z", "well well well|a", "a dog a dig a dug"
  };
  private static final String[] QUESTIONS = {
    "dog", "!dog", "<dog", ">dog", "do*", "dig~", "dog~&!dogma", "\"the dog\"", "{1 a dog}", "{0 a a}", "[2-6]",
    "dog^9|well", "(dog|well)^3&!x", "!(!dog)", "!(a|old)", "<well^2|bark~|\"a dog\"", "a&!(dog&!(dig|dug))",
    "x|y", "!zz", "[0-9]&(do*^2|w*)"
  };

  private long seed = 1;

  private TheoremTest() {
  }

  public static void main(String[] args) {
    howeverTheyCame();
    firstOnesFoundEarly();
    longRows();
    longRowsAsWords();
    new TheoremTest().packedRows();
    new TheoremTest().joinedRows();
    slips();
    new TheoremTest().spans();
    new TheoremTest().simplerQuestions();
    savedQuestions();
    Check.end("TheoremTest");
  }

  private int below(int bound) {
    seed = seed * 6364136223846793005L + 1442695040888963407L;
    return (int) Math.floorMod(seed >>> 33, (long) bound);
  }

  private String wordsOf(int most, String... words) {
    StringBuilder all = new StringBuilder();
    int size = below(most + 1);
    for (int i = 0; i < size; i++) {
      all.append(i > 0 ? " " : "").append(words[below(words.length)]);
    }
    return all.toString();
  }

  // ---- "The texts that a question finds are just those that fit it if all texts are read word by word, whatever texts
  // came, went or were revised, and however parts were joined; they come in the order of their worth"

  /** All wells have the same texts, of which the second one and the sixth one went. */
  private static void howeverTheyCame() {
    Seekwell direct = Check.wellOf(TEXTS);
    direct.drop(1);
    direct.drop(5);
    Seekwell[] others = {inParts(), joined(), revised(), written(), moved()};
    for (String question : QUESTIONS) {
      String want = answers(direct, question);
      for (int i = 0; i < others.length; i++) {
        Seekwell other = others[i];
        Check.due("way " + i + ", " + question, want, () -> answers(other, question));
      }
    }
  }

  /** All that a question tells of the texts. */
  private static String answers(Seekwell well, String question) {
    StringBuilder all = new StringBuilder().append(Check.ask(well, question)).append(' ').append(well.hits());
    for (int i = 0; i <= TEXTS.length; i++) {
      int each = i;
      all.append(' ').append(Check.answerOf(() -> well.hitAt(each))).append(Check.answerOf(() -> well.top(3, each)));
      all.append(Check.answerOf(() -> well.fits(each))).append(Check.told(well, () -> well.tellWorth(each)));
      all.append(Check.answerOf(() -> well.spanBegin(each))).append(Check.answerOf(() -> well.spanLength(each)));
    }
    return all.append(well.tagged('c')).append(well.valued(3, 6)).append(well.isSound()).toString();
  }

  private static Seekwell inParts() {
    Seekwell well = new Seekwell();
    for (int i = 0; i < TEXTS.length; i++) {
      Check.add(well, TEXTS[i], i, (char) ('a' + i));
      Check.answerOf(well::seal);
    }
    well.drop(5);
    well.drop(1);
    return well;
  }

  private static Seekwell joined() {
    Seekwell well = inParts();
    for (int part : new int[] {3, 0, 2, 1, 1, 0}) {
      Check.due("isSound ahead of join " + part, true, well::isSound);
      well.join(part);
    }
    return well;
  }

  private static Seekwell revised() {
    Seekwell well = new Seekwell();
    for (int i = 0; i < TEXTS.length; i++) {
      Check.add(well, TEXTS[TEXTS.length - 1 - i], i, (char) ('a' + i));
    }
    well.seal();
    for (int i = TEXTS.length - 1; i >= 0; i--) {
      Check.put(well, TEXTS[i]);
      well.revise(i);
      Check.answerOf(well::seal);
    }
    well.drop(1);
    well.drop(5);
    return well;
  }

  private static Seekwell written() {
    Seekwell well = joined();
    well.write();
    for (int i = 0; i < TEXTS.length; i++) {
      int each = i;
      Check.put(well, "dog dig");
      Check.answerOf(() -> each % 2 == 0 ? well.revise(each) : well.drop(each));
    }
    Check.add(well, "a dog", 3, 'c');
    well.reread();
    return well;
  }

  /** Each text is revised by its own words, so that it comes to the newest part. */
  private static Seekwell moved() {
    Seekwell well = inParts();
    for (int i = 0; i < TEXTS.length; i += 2) {
      Check.put(well, TEXTS[i]);
      well.revise(i);
    }
    well.join(1);
    well.join(0);
    return well;
  }

  // ---- "ties by their numbers, and the first ones found early are the first of all"

  private static void firstOnesFoundEarly() {
    Seekwell well = new Seekwell();
    for (int i = 0; i < 24; i++) {
      // The seventh of them is as the first one, and so on.
      Check.add(well, "a " + "x ".repeat(i % 7 * 3 % 7) + "b|" + "a ".repeat(i % 7 % 3), i, 'a');
    }
    for (String question : new String[] {"a", "b^2|a", "x", "!x", "!y", "<b&x^9", "a&[3-12]", "zz"}) {
      Check.ask(well, question);
      for (int most = 1; most <= 10; most++) {
        for (int rank = 0; rank <= 10; rank++) {
          int looked = most;
          int at = rank;
          Object want = rank < most ? Check.answerOf(() -> well.hitAt(at)) : "throws.IndexOutOfBoundsException";
          Check.due("top " + most + ", " + rank + " by " + question, want, () -> well.top(looked, at));
        }
      }
    }
    Check.ask(well, "!y");
    for (int i = 0; i < 24; i++) {
      int at = i;
      Check.due("all worths are none, by their numbers", at, () -> well.hitAt(at));
    }
  }

  // ---- "some put a row of signs there, in place of what it was, which can be longer than what can be typed": any call
  // that reads the text reads it then

  /** A question of 38 choices of two terms, whose simpler one has 38 times (!a0|!b1)& but the last '&'. */
  private static String given() {
    StringBuilder all = new StringBuilder("!(");
    for (int i = 0; i < 38; i++) {
      all.append(i > 0 ? "|" : "").append(one(i)).append('&').append(two(i));
    }
    return all.append(')').toString();
  }

  private static String made() {
    StringBuilder all = new StringBuilder();
    for (int i = 0; i < 38; i++) {
      all.append(i > 0 ? "&" : "").append("(!").append(one(i)).append("|!").append(two(i)).append(')');
    }
    return all.toString();
  }

  private static String one(int i) {
    return String.valueOf((char) ('a' + i % 19));
  }

  private static String two(int i) {
    return i < 19 ? "t" : "0";
  }

  private static Seekwell withLongRow() {
    Seekwell well = Check.wellOf("dog|a dig", "t a");
    Check.due("a question", 76, () -> Check.ask(well, given()));
    Check.due("made simpler", 76, well::simplify);
    Check.due("longer than what can be typed", made(), () -> Check.told(well, well::tellQuestion));
    Check.due("its signs", 303, () -> made().length());
    return well;
  }

  private static void longRows() {
    Seekwell added = withLongRow();
    Check.due("add", 2, () -> added.add(5, 'c'));
    wordsOfLongRow(added, 2);
    Seekwell revised = withLongRow();
    Check.due("revise", 76, () -> revised.revise(0));
    wordsOfLongRow(revised, 0);
    Seekwell asked = withLongRow();
    Check.due("ask", 76, asked::ask);
    Check.due("it is taken away", 0, asked::erase);
    Check.due("the same is asked", made(), () -> Check.told(asked, asked::tellQuestion));
    Check.due("and one text found", "1 0", () -> asked.hits() + " " + asked.hitAt(0));
    Seekwell erased = withLongRow();
    Check.due("its last sign", ')', () -> erased.signAt(302));
    Check.refused("behind its last sign", "IndexOutOfBoundsException", erased, () -> erased.signAt(303));
    Check.refused("no sign can be typed", "IllegalStateException", erased, () -> erased.type('a'));
    Check.due("erase", 303, erased::erase);
    Check.due("then one can be typed", 1, () -> erased.type('a'));
    Seekwell summed = withLongRow();
    long sum = summed.checksum();
    summed.erase();
    long without = summed.checksum();
    for (char sign : made().toCharArray()) {
      without = 31 * without + sign;
    }
    long want = without;
    Check.due("checksum has all its signs", want, () -> sum);
  }

  private static void wordsOfLongRow(Seekwell well, int number) {
    Check.due("it is taken away", 0, well::erase);
    Check.due("its length", 76, () -> well.length(number));
    Check.due("its title is ahead of the first '|'", "a", () -> Check.told(well, () -> well.tellWord(number, true, 0)));
    Check.refused("it has one word", "IndexOutOfBoundsException", well, () -> well.tellWord(number, true, 1));
    for (int i = 1; i < 76; i++) {
      int at = i - 1;
      String want = i % 2 == 0 ? one(i / 2) : two(i / 2);
      Check.due("body " + at, want, () -> Check.told(well, () -> well.tellWord(number, false, at)));
    }
    Check.put(well, "0");
    Check.due("19 places, one byte each, behind 3 others", 22, () -> well.packed(0));
    Check.due("the first one of them", 38, () -> well.byteAt(3));
    Check.due("the last one of them", 2, () -> well.byteAt(21));
    Check.ask(well, "\"s 0\"");
    Check.due("found by its last words", number, () -> well.hitAt(0));
    Check.due("where its span begins", 73, () -> well.spanBegin(number));
    Check.due("isSound", true, well::isSound);
  }

  private static void longRowsAsWords() {
    Seekwell well = withLongRow();
    Check.refused("having", "IllegalArgumentException", well, well::having);
    Check.refused("beginning", "IllegalArgumentException", well, well::beginning);
    Check.refused("slips", "IllegalArgumentException", well, well::slips);
    Check.refused("suggest", "IllegalArgumentException", well, well::suggest);
    Check.refused("packed", "IllegalArgumentException", well, () -> well.packed(0));
    Check.refused("packed in no part", "IndexOutOfBoundsException", well, () -> well.packed(1));
    Check.refused("add", "IllegalArgumentException", well, () -> well.add(1000, 'a'));
    Check.refused("revise", "NoSuchElementException", well, () -> well.revise(2));
    Check.due("the row is still there", made(), () -> Check.text(well));
    Check.due("a word in place of it", "dig", () -> Check.told(well, () -> well.tellWord(0, false, 1)));
    Check.due("which is read", 1, well::having);
    well.tellWord(0, true, 0);
    Check.due("a sign behind what was told", 4, () -> well.type('s'));
    Check.due("is read with it", 4, () -> well.packed(0));
    well.tellOf(2);
    Check.due("a word of the texts is suggested for", "dig", () -> Check.told(well, well::suggest));
    Check.due("what was suggested is a slip of two", 2, well::slips);
    well.tellWorth(0);
    Check.due("a fraction is no question", -2, well::ask);
    well.tellWorth(0);
    Check.due("but a text", 2, () -> well.add(0, 'a'));
    Check.due("of two words", 2, () -> well.length(2));
  }

  // ---- "Packed rows tell the places from which they were made, and the packed row of a word in a joined part is that
  // of all its texts"

  private static List<Integer> packed(Seekwell well, String word, int part) {
    Check.put(well, word);
    int size = well.packed(part);
    List<Integer> bytes = Check.bytes(well::byteAt);
    return bytes.size() == size ? bytes : List.of(-1);
  }

  /** The places that a packed row tells, by the numbers of the texts, those of the title with a t ahead. */
  private static TreeMap<Integer, String> unpacked(List<Integer> bytes) {
    TreeMap<Integer, String> texts = new TreeMap<>();
    int at = 0;
    int number = 0;
    while (at < bytes.size()) {
      number += bytes.get(at++);
      StringBuilder places = new StringBuilder();
      for (String row : new String[] {" t", " b"}) {
        int count = bytes.get(at++);
        int place = 0;
        for (int i = 0; i < count; i++) {
          place += bytes.get(at++);
          places.append(row).append(place);
        }
      }
      texts.put(number, places.toString());
    }
    return texts;
  }

  private static String places(Seekwell well, String word, int number) {
    StringBuilder places = new StringBuilder();
    for (boolean isTitle : new boolean[] {true, false}) {
      for (int place = 0; place < 99; place++) {
        int at = place;
        Object size = Check.answerOf(() -> well.tellWord(number, isTitle, at));
        if (size instanceof String) {
          break;
        }
        if (Check.text(well).equals(word)) {
          places.append(isTitle ? " t" : " b").append(place);
        }
      }
    }
    return places.toString();
  }

  private Seekwell anyParts() {
    Seekwell well = new Seekwell();
    for (int i = 0; i < 12; i++) {
      Check.add(well, wordsOf(4, "a", "b", "cc") + (below(2) == 0 ? "|" : " ") + wordsOf(9, "a", "b", "cc"), i, 'a');
      if (below(3) == 0) {
        Check.answerOf(well::seal);
      }
      if (below(4) == 0) {
        int number = below(i + 1);
        Check.put(well, wordsOf(6, "a", "cc"));
        Check.answerOf(() -> below(2) == 0 ? well.revise(number) : well.drop(number));
      }
    }
    return well;
  }

  private void packedRows() {
    for (int run = 0; run < 20; run++) {
      Seekwell well = anyParts();
      for (String word : new String[] {"a", "b", "cc"}) {
        TreeMap<Integer, String> all = new TreeMap<>();
        int texts = 0;
        for (int part = 0; part < well.parts(); part++) {
          TreeMap<Integer, String> here = unpacked(packed(well, word, part));
          texts += here.size();
          all.putAll(here);
        }
        TreeMap<Integer, String> want = new TreeMap<>();
        for (int number = 0; number < 12; number++) {
          String places = places(well, word, number);
          if (!places.isEmpty()) {
            want.put(number, places);
          }
        }
        int rows = texts;
        Check.due("all places of " + word + " in run " + run, want, () -> all);
        Check.due("each text in one part, " + word + " in run " + run, want.size(), () -> rows);
      }
    }
  }

  private void joinedRows() {
    for (int run = 0; run < 20; run++) {
      Seekwell well = anyParts();
      while (well.parts() > 1) {
        int part = below(well.parts() - 1);
        List<TreeMap<Integer, String>> wants = new ArrayList<>();
        for (String word : new String[] {"a", "b", "cc"}) {
          TreeMap<Integer, String> want = unpacked(packed(well, word, part));
          want.putAll(unpacked(packed(well, word, part + 1)));
          wants.add(want);
        }
        int texts = well.partSize(part) + well.partSize(part + 1);
        Check.due("join " + part + " in run " + run, texts, () -> well.join(part));
        for (String word : new String[] {"a", "b", "cc"}) {
          Check.due(word + " joined in run " + run, wants.remove(0), () -> unpacked(packed(well, word, part)));
        }
        Check.due("isSound", true, well::isSound);
      }
    }
  }

  // ---- "The words within a slip of one are that one and just those that one sign put in, taken out, changed, or two
  // neighbours put about, makes"

  private static void slips() {
    List<String> words = new ArrayList<>();
    for (char a = 'a'; a <= 'c'; a++) {
      words.add("" + a);
      for (char b = 'a'; b <= 'c'; b++) {
        words.add("" + a + b);
        for (char c = 'a'; c <= 'c'; c++) {
          words.add("" + a + b + c);
        }
      }
    }
    Seekwell well = Check.wellOf(String.join(" ", words));
    for (String slip : words) {
      int want = 0;
      for (String word : words) {
        want += isOneStep(slip, word) ? 1 : 0;
      }
      Check.put(well, slip);
      Check.due("slips of " + slip, want, well::slips);
      Check.ask(well, slip + "~");
      Check.due("worth by " + slip + "~", want + "/40", () -> unreduced(Check.told(well, () -> well.tellWorth(0))));
    }
  }

  /** A worth of one text of 39 words: how many places, of 40. */
  private static String unreduced(String fraction) {
    String[] both = fraction.split("/");
    return Integer.parseInt(both[0]) * (40 / Integer.parseInt(both[1])) + "/40";
  }

  private static boolean isOneStep(String slip, String word) {
    if (slip.equals(word)) {
      return true;
    }
    for (int i = 0; i <= slip.length(); i++) {
      String behind = slip.substring(i);
      String pattern = slip.substring(0, i) + "." + behind;
      String changed = behind.isEmpty() ? "" : slip.substring(0, i) + ".?" + behind.substring(1);
      String about = behind.length() < 2 ? ""
          : slip.substring(0, i) + behind.charAt(1) + behind.charAt(0) + behind.substring(2);
      if (word.matches(pattern) || word.matches(changed) || word.equals(about)) {
        return true;
      }
    }
    return false;
  }

  // ---- "The span that is told holds a spot of each item of the question that has one in the body, no shorter one
  // does, and none ahead is as short"

  private void spans() {
    String[] items = {"a", "b", "c", "ab", "a*", "b~", "\"a b\"", "\"b b\"", "\"a b c\"", ">c"};
    for (int run = 0; run < 150; run++) {
      String body = wordsOf(9, "a", "b", "c", "ab");
      Seekwell well = Check.wellOf(body);
      StringBuilder question = new StringBuilder("!zz");
      List<String> asked = new ArrayList<>();
      int count = 1 + below(3);
      for (int i = 0; i < count; i++) {
        String item = items[below(items.length)];
        asked.add(item);
        question.append('|').append(item).append(below(3) == 0 ? "^2" : "");
      }
      String want = spanOf(body.isEmpty() ? new String[0] : body.split(" "), asked);
      Check.ask(well, question.toString());
      Check.due("the span of '" + body + "' by " + question, want,
          () -> Check.answerOf(() -> well.spanBegin(0)) + " " + Check.answerOf(() -> well.spanLength(0)));
    }
  }

  /** Tries all spans, the short ones first: each item that the body fits must fit the span alone. */
  private static String spanOf(String[] body, List<String> items) {
    List<String> left = new ArrayList<>();
    for (String item : items) {
      if (has(body, 0, body.length, item)) {
        left.add(item);
      }
    }
    for (int size = 1; size <= body.length && !left.isEmpty(); size++) {
      for (int begin = 0; begin + size <= body.length; begin++) {
        boolean hasAll = true;
        for (String item : left) {
          hasAll = hasAll && has(body, begin, size, item);
        }
        if (hasAll) {
          return begin + " " + size;
        }
      }
    }
    return "throws.UnsupportedOperationException throws.UnsupportedOperationException";
  }

  private static boolean has(String[] body, int begin, int size, String item) {
    StringBuilder cut = new StringBuilder();
    for (int i = begin; i < begin + size; i++) {
      cut.append(body[i]).append(' ');
    }
    Seekwell well = Check.wellOf(cut.toString());
    Check.ask(well, item);
    return well.fits(0);
  }

  // ---- "A question made simpler finds the same texts"

  private String question(int depth) {
    StringBuilder all = new StringBuilder();
    int size = 1 + below(3);
    for (int i = 0; i < size; i++) {
      all.append(i == 0 ? "" : below(2) == 0 ? "|" : "&").append(below(3) == 0 ? "!" : "");
      if (depth > 0 && below(2) == 0) {
        all.append('(').append(question(depth - 1)).append(')');
      } else {
        all.append((char) ('a' + below(4)));
      }
      all.append(below(5) == 0 ? "^3" : "");
    }
    return all.toString();
  }

  private static String found(Seekwell well) {
    StringBuilder all = new StringBuilder();
    for (int number = 0; number < 16; number++) {
      all.append(well.fits(number) ? '1' : '0');
    }
    return all.append(' ').append(well.hits()).toString();
  }

  /** The texts have each choice of four words. */
  private void simplerQuestions() {
    Seekwell well = new Seekwell();
    for (int i = 0; i < 16; i++) {
      Check.add(well, (i % 2 == 0 ? "" : "a ") + (i / 2 % 2 == 0 ? "" : "b|") + (i / 4 % 2 == 0 ? "" : "c ")
          + (i / 8 == 0 ? "" : "d"), i, 'a');
    }
    for (int run = 0; run < 400; run++) {
      String question = question(3);
      if (question.length() > 160) {
        continue;
      }
      int units = Check.ask(well, question);
      String want = found(well);
      Check.due("isSound of " + question, true, well::isSound);
      int left = well.simplify();
      Check.due(question + " made simpler", want, () -> found(well));
      Check.due(question + " has no more units", true, () -> left <= units);
      String told = Check.told(well, well::tellQuestion);
      Check.due(question + ", no weights are left", -1, () -> told.indexOf('^'));
      Check.due(question + ", no '!' ahead of parentheses", -1, () -> told.indexOf("!("));
      Check.due(told + " asked again", left, well::ask);
      Check.due(told + " asked again finds the same", want, () -> found(well));
    }
  }

  // ---- "Reads the text as a question, which is asked then, at a fault that of before", and "Saves the question that
  // is asked, in place of one": what is saved stays as it was

  private static void savedQuestions() {
    Seekwell well = Check.wellOf(TEXTS);
    String[] news = new String[QUESTIONS.length];
    for (int i = 0; i < QUESTIONS.length; i++) {
      Check.ask(well, QUESTIONS[i]);
      news[i] = fitting(well);
    }
    Seekwell saving = Check.wellOf(TEXTS);
    for (int i = 0; i < QUESTIONS.length; i++) {
      int slot = i % 4;
      String named = " behind " + QUESTIONS[i];
      Check.ask(saving, QUESTIONS[i]);
      Check.due("save" + named, Math.min(i + 1, 4), () -> saving.save(slot));
      saved(saving, news, i, named);
      saving.simplify();
      saved(saving, news, i, named + " made simpler");
      Check.ask(saving, "!((a|b)&!(c|dog^4))^2|" + QUESTIONS[(i + 7) % QUESTIONS.length]);
      saved(saving, news, i, named + " and another one");
      saving.simplify();
      saved(saving, news, i, named + " and another one made simpler");
      String told = Check.told(saving, saving::tellQuestion);
      Check.put(saving, "(a|b)&(c|!(dog^2");
      Check.due("a fault" + named, -17, saving::ask);
      Check.due("leaves that of before" + named, told, () -> Check.told(saving, saving::tellQuestion));
      saved(saving, news, i, named + " and a fault");
    }
  }

  private static String fitting(Seekwell well) {
    StringBuilder all = new StringBuilder();
    for (int number = 0; number < TEXTS.length; number++) {
      all.append(well.fits(number) ? '1' : '0');
    }
    return all.toString();
  }

  /** Each slot has the last question that was saved there. */
  private static void saved(Seekwell well, String[] news, int last, String named) {
    for (int number = 0; number < TEXTS.length; number++) {
      int text = number;
      int want = 0;
      for (int i = Math.max(0, last - 3); i <= last; i++) {
        want += news[i].charAt(number) == '1' ? 1 << i % 4 : 0;
      }
      Check.due("news " + number + named, want, () -> well.news(text));
    }
  }
}
