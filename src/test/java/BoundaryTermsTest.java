import java.util.List;

/** The boundary cases that "Terms" names, sentence by sentence. */
public final class BoundaryTermsTest {
  private static final String TWELVE = "abcdefghijkl";

  private BoundaryTermsTest() {
  }

  public static void main(String[] args) {
    wordsOfTwelve();
    shorteningByLength();
    whatIsNotShortened();
    textsThatAreRead();
    textsThatStayAtAnException();
    longerThanTyped();
    texts();
    titles();
    questionSizes();
    nearness();
    slips();
    worthOfNone();
    spans();
    Check.end("BoundaryTermsTest");
  }

  /** The words of the body of a text, as they are told. */
  private static String body(String text) {
    Seekwell well = Check.wellOf(text);
    StringBuilder all = new StringBuilder();
    int size = well.length(0);
    for (int place = 0; place < size; place++) {
      int at = place;
      all.append(place > 0 ? " " : "").append(Check.told(well, () -> well.tellWord(0, false, at)));
    }
    return all.toString();
  }

  private static void reads(String text, String want) {
    Check.due("the words of '" + text + "'", want, () -> body(text));
  }

  // ---- "a row of letters and digits, as long as it goes, ... of which the first 12 signs count"

  private static void wordsOfTwelve() {
    reads("abcdefghijk", "abcdefghijk");
    reads(TWELVE, TWELVE);
    reads(TWELVE + "m", TWELVE);
    reads("q".repeat(160), "q".repeat(12));
    reads(TWELVE + "m n", TWELVE + " n");
    reads("az AZ 09", "az az 09");
    reads("/a:b@c[d`e{f", "a b c d e f");
    Seekwell well = Check.wellOf(TWELVE + "mno", TWELVE + "xyz", "abcdefghijkX");
    Check.due("unlike from the 13th sign on is the same", 2, well::words);
    Check.put(well, TWELVE + "0");
    Check.due("having, the 13th sign does not count", 2, well::having);
    Check.put(well, "abcdefghijk" + "x" + "9");
    Check.due("having, the 12th sign counts", 1, well::having);
    Check.put(well, TWELVE + "0");
    Check.due("beginning, the 13th sign does not count", 1, well::beginning);
    Check.put(well, "abcdefghijk");
    Check.due("beginning with eleven signs", 2, well::beginning);
    Check.put(well, TWELVE + "0");
    Check.due("slips, the 13th sign does not count", 2, well::slips);
    Check.put(well, TWELVE + "0");
    Check.due("suggest, the 13th sign does not count", "abcdefghijkx", () -> Check.told(well, well::suggest));
    Check.put(well, TWELVE + "0");
    Check.due("packed, the 13th sign does not count", 8, () -> well.packed(0));
  }

  // ---- "if it is longer than 3, and ends with an s, but not with two, that s goes; then, if it is longer than 5 and
  // ends with ing, or longer than 4 and ends with ed, that goes"

  private static void shorteningByLength() {
    reads("s xs xxs xxxs xxxxs", "s xs xxs xxx xxxx");
    reads("ss xss xxss xxxss sss ssss", "ss xss xxss xxxss sss ssss");
    reads("ing xing xxing xxxing xxxxing", "ing xing xxing xxx xxxx");
    reads("ed xed xxed xxxed xxxxed", "ed xed xxed xxx xxxx");
    reads("ings xings xxings xxxings", "ing xing xxing xxx");
    reads("eds xeds xxeds xxxeds", "eds xed xxed xxx");
    reads("inging xxxinging", "ing xxxing");
    reads("xxxeding xxxinged xxxeded", "xxxed xxxing xxxed");
    reads("xxxsing xxxsed xxxsss xxxss", "xxxs xxxs xxxsss xxxss");
    reads("XXXS XXXING XXXED", "xxx xxx xxx");
    reads("0s 000s 000ing 000ed 00ed", "0s 000 000 000 00ed");
    reads("xxxsx xxxingx xxxedx", "xxxsx xxxingx xxxedx");
    reads("xxxng xxxng9 xxxxig xxxd xxxxd xxxxe", "xxxng xxxng9 xxxxig xxxd xxxxd xxxxe");
    reads("abcdefghijks abcdefghiing abcdefghijed", "abcdefghijk abcdefghi abcdefghij");
    reads("abcdefghijksx abcdefghiingx abcdefghijedx", "abcdefghijk abcdefghi abcdefghij");
    reads("abcdefghijkls abcdefghijing abcdefghijked", "abcdefghijkl abcdefghijin abcdefghijke");
    reads("abcdefghijss abcdefghijkss", "abcdefghijss abcdefghijk");
    reads("abcdefghings abcdefghieds", "abcdefgh abcdefghi");
  }

  // ---- "All words of texts and questions are shortened, but beginnings and slips"

  private static void whatIsNotShortened() {
    Seekwell well = Check.wellOf("dogs barking \"boss", "dog barked");
    String[] questions = {
      "DOGS", "dogs*", "dogs~", "DOG*", "barking*", "barking~", "\"dogs barked\"", "{1 barked dogs}", "BOSS*"
    };
    int[] wants = {2, 0, 2, 2, 0, 0, 2, 2, 1};
    for (int i = 0; i < questions.length; i++) {
      String question = questions[i];
      Check.ask(well, question);
      Check.due("hits of " + question, wants[i], well::hits);
    }
    Check.ask(well, "DOGS|DOGS*|DOGS~|\"DOGS\"|{1 DOGS CATS}");
    Check.due("told", "dog|dogs*|dogs~|\"dog\"|{1 dog cat}", () -> Check.told(well, well::tellQuestion));
    String[] words = {"dogs", "barking", "boss"};
    int[] having = {2, 2, 1};
    int[] beginning = {0, 0, 1};
    int[] slips = {1, 0, 1};
    for (int i = 0; i < words.length; i++) {
      Check.put(well, words[i]);
      Check.due("having " + words[i], having[i], well::having);
      Check.put(well, words[i]);
      Check.due("beginning " + words[i], beginning[i], well::beginning);
      Check.put(well, words[i]);
      Check.due("slips " + words[i], slips[i], well::slips);
    }
  }

  // ---- "Some calls read the text, and take it away then, also at a fault, but not with an exception"

  private static void textsThatAreRead() {
    Seekwell well = Check.wellOf("dog", "cat");
    Check.Call[] readers = {
      () -> well.add(0, 'a'), () -> well.revise(1), well::having, well::beginning, well::slips, () -> well.packed(0),
      well::ask
    };
    for (int i = 0; i < readers.length; i++) {
      Check.put(well, "dog");
      Check.answerOf(readers[i]);
      Check.due("reader " + i + " takes the text away", "", () -> Check.text(well));
      Check.due("and it is typed from the first sign on", 1, () -> well.type('x'));
    }
    for (String fault : new String[] {"dog dog", "(dog", "&", "dog|", " "}) {
      Check.put(well, fault);
      Check.due("a fault, '" + fault + "'", true, () -> well.ask() < 0);
      Check.due("takes the text away, '" + fault + "'", 0, well::erase);
    }
    Check.put(well, "kept");
    Check.Call[] others = {
      () -> well.drop(2), well::texts, () -> well.isThere(0), () -> well.length(0), () -> well.value(0),
      () -> well.tag(0), well::words, well::parts, () -> well.partSize(0), well::seal, () -> well.join(0),
      () -> well.byteAt(0), () -> well.fits(0), well::hits, () -> well.hitAt(0), () -> well.top(1, 0),
      () -> well.tagged('a'), () -> well.valued(0, 999), () -> well.spanBegin(0), () -> well.spanLength(0),
      () -> well.save(0), () -> well.news(0), () -> well.likeness(0, 0), well::write, () -> well.writtenAt(0),
      well::reread, well::checksum, well::isSound, well::simplify
    };
    for (int i = 0; i < others.length; i++) {
      Check.answerOf(others[i]);
      Check.due("other call " + i + " leaves the text", "kept", () -> Check.text(well));
    }
  }

  private static void textsThatStayAtAnException() {
    Seekwell well = Check.wellOf("dog");
    for (String wrong : new String[] {"", "a b", "dog ", " dog", "do-g", "|dog"}) {
      Check.put(well, wrong);
      Check.refused("having", "IllegalArgumentException", well, well::having);
      Check.refused("beginning", "IllegalArgumentException", well, well::beginning);
      Check.refused("slips", "IllegalArgumentException", well, well::slips);
      Check.refused("suggest", "IllegalArgumentException", well, well::suggest);
      Check.refused("packed", "IllegalArgumentException", well, () -> well.packed(0));
    }
    Check.put(well, "dog");
    Check.refused("suggest", "NoSuchElementException", well, well::suggest);
    Check.refused("packed", "IndexOutOfBoundsException", well, () -> well.packed(1));
    Check.refused("add", "IllegalArgumentException", well, () -> well.add(-1, 'a'));
    Check.refused("revise", "NoSuchElementException", well, () -> well.revise(1));
    Check.refused("tellWord", "IndexOutOfBoundsException", well, () -> well.tellWord(0, true, 0));
    Check.refused("tellOf", "IndexOutOfBoundsException", well, () -> well.tellOf(1));
    Check.refused("tellQuestion", "IllegalStateException", well, well::tellQuestion);
    Check.refused("tellWorth", "IllegalStateException", well, () -> well.tellWorth(0));
    Check.due("the text is still there", "dog", () -> Check.text(well));
  }

  // ---- "some put a row of signs there, in place of what it was, which can be longer than what can be typed"

  private static void longerThanTyped() {
    Seekwell well = Check.wellOf("dog dig");
    Check.ask(well, "!(" + "a|".repeat(53) + "abcd)");
    Check.due("told as typed", 2 + 2 * 53 + 4 + 1, well::tellQuestion);
    String made = "ab|".repeat(53);
    Check.ask(well, made.substring(0, made.length() - 1));
    Check.due("of 158 signs", 158, well::tellQuestion);
    Check.due("the next one can be typed", 159, () -> well.type('|'));
    Check.due("and the last one", 160, () -> well.type('|'));
    Check.refused("160 signs", "IllegalStateException", well, () -> well.type('|'));
    Check.due("erase of 160 signs", 160, well::erase);
    simplerOf(well, "xxxx", 161);
    Check.refused("161 signs", "IllegalStateException", well, () -> well.type('|'));
    Check.refused("161 signs, and a wrong one", "IllegalArgumentException", well, () -> well.type((char) 127));
    Check.due("erase of 161 signs", 161, well::erase);
    Check.due("nothing is left", 1, () -> well.type('x'));
    simplerOf(well, "xxxx", 161);
    Check.due("a word in place of it", "dig", () -> Check.told(well, () -> well.tellWord(0, false, 1)));
    Check.due("behind which can be typed", 4, () -> well.type('s'));
    simplerOf(well, "xxxx", 161);
    Check.due("a fraction in place of it", "0/1", () -> Check.told(well, () -> well.tellWorth(0)));
    simplerOf(well, "xxxx", 161);
    Check.due("a word of the texts in place of it", "dog", () -> Check.told(well, () -> well.tellOf(1)));
    simplerOf(well, "xxxx", 161);
    Check.due("it is a question", 40, well::ask);
    simplerOf(well, "xxxx", 161);
    Check.due("and a text", 40, () -> well.revise(0));
    simplerOf(well, "xxx", 160);
    Check.refused("160 signs that were told", "IllegalStateException", well, () -> well.type('|'));
    simplerOf(well, "xx", 159);
    Check.due("159 signs that were told", 160, () -> well.type('|'));
  }

  /** Puts a question of 40 words made simpler into the text: each has a '!', 39 have two signs and a '&' behind. */
  private static void simplerOf(Seekwell well, String last, int want) {
    StringBuilder question = new StringBuilder("!(");
    for (int i = 0; i < 39; i++) {
      question.append((char) ('a' + i % 26)).append(i / 26).append('|');
    }
    Check.ask(well, question + last + ")");
    well.simplify();
    Check.due("made simpler, of " + want + " signs", want, well::tellQuestion);
  }

  // ---- "At most 24 texts come in all, numbered from 0 as they come; one that went does not come back by itself, and
  // its number is not used again"

  private static void texts() {
    Seekwell well = new Seekwell();
    for (int i = 0; i < 23; i++) {
      well.add(0, 'a');
    }
    well.drop(22);
    Check.due("the 24th text", 23, () -> well.add(0, 'a'));
    Check.due("one of them went", 23, well::texts);
    Check.refused("a 25th text", "IllegalStateException", well, () -> well.add(0, 'a'));
    Check.due("the one that went is not there", false, () -> well.isThere(22));
    for (int i = 0; i < 24; i++) {
      Check.answerOf(() -> well.drop(Check.last(well)));
    }
    Check.due("all went", 0, well::texts);
    Check.refused("24 came, all went", "IllegalStateException", well, () -> well.add(0, 'a'));
    Seekwell few = Check.wellOf("a", "b");
    few.drop(1);
    Check.put(few, "c");
    Check.refused("one that went is not revised", "NoSuchElementException", few, () -> few.revise(1));
    Check.due("nor is its number used", 2, () -> few.add(0, 'a'));
    few.seal();
    few.join(0);
    Check.due("nor does it come back", false, () -> few.isThere(1));
  }

  // ---- "its title is what stands ahead of the first '|', its body what stands behind it; without a '|' all is the
  // body"

  private static void titles() {
    String[] texts = {"", "|", "||", "a", "|a", "a|", "a|b", "a|b|c", "a b|", "|a|b", "do|gs"};
    String[] lengths = {"0 0", "0 0", "0 0", "0 1", "0 1", "1 0", "1 1", "1 2", "2 0", "0 2", "1 1"};
    for (int i = 0; i < texts.length; i++) {
      Seekwell well = Check.wellOf(texts[i]);
      String want = lengths[i];
      Check.due("title and body of '" + texts[i] + "'", want, () -> places(well, true) + " " + places(well, false));
      Check.due("the length of '" + texts[i] + "'", want.charAt(0) - '0' + want.charAt(2) - '0', () -> well.length(0));
    }
  }

  private static int places(Seekwell well, boolean isTitle) {
    int count = 0;
    for (; count < 9; count++) {
      int at = count;
      if (Check.answerOf(() -> well.tellWord(0, isTitle, at)).toString().startsWith("throws.")) {
        break;
      }
    }
    return count;
  }

  // ---- "In a question words have at most 12 signs, numbers one digit to three", and the other sizes of a question

  private static void asks(String question, int want) {
    Check.due("ask '" + question + "'", want, () -> Check.ask(new Seekwell(), question));
  }

  private static void questionSizes() {
    for (String[] around : new String[][] {{"", ""}, {"<", ""}, {">", "*"}, {"", "~"}, {"\"", "\""}, {"\"a ", " a\""},
        {"{0 ", " a}"}, {"{0 a ", "}"}, {"{9 a a ", " a}"}, {"!(", ")^9"}}) {
      asks(around[0] + "x" + around[1], 1);
      asks(around[0] + TWELVE + around[1], 1);
      asks(around[0] + TWELVE + "m" + around[1], -1 - around[0].length() - 12);
      asks(around[0] + "x".repeat(40) + around[1], -1 - around[0].length() - 12);
    }
    for (String number : new String[] {"0", "9", "10", "99", "100", "999", "00", "000", "007"}) {
      asks("[" + number + "-" + number + "]", 1);
    }
    asks("[-0]", -2);
    asks("[0-]", -4);
    asks("[1000-0]", -5);
    asks("[0-1000]", -7);
    asks("a^0", -3);
    asks("a^1", 1);
    asks("a^9", 1);
    asks("a^10", -4);
    asks("\"\"", -2);
    asks("\"a\"", 1);
    asks("{0}", -3);
    asks("{0 a}", -5);
    asks("{0 a a}", 1);
    asks("{9 a a}", 1);
    asks("{10 a a}", -3);
    asks("", -1);
    asks("(" + "a", -3);
    asks("()", -2);
    asks("a".repeat(12), 1);
    asks("a|".repeat(79) + "a", 80);
    asks("a|".repeat(80), -161);
    asks("a" + ")", -2);
    asks("\"" + "a ".repeat(78) + "a\"", 1);
    asks("\"" + "a ".repeat(79) + "a", -161);
  }

  // ---- "of which the greatest is at most the digit more than the least, one place doing for like words"

  private static void nearness() {
    for (int digit = 0; digit <= 9; digit++) {
      Seekwell well = Check.wellOf("a " + "x ".repeat(digit) + "b", "a " + "x ".repeat(Math.max(0, digit - 1)) + "b",
          "b " + "x ".repeat(digit) + "a|b", "|b " + "x ".repeat(Math.max(0, digit - 1)) + "a");
      int each = digit;
      Check.ask(well, "{" + digit + " a b}");
      String want = digit == 0 ? "false false false false" : "false true false true";
      Check.due("nearness of " + each, want,
          () -> well.fits(0) + " " + well.fits(1) + " " + well.fits(2) + " " + well.fits(3));
    }
    Seekwell well = Check.wellOf("a", "a a", "b|a", "a|b");
    String[] questions = {"{0 a a}", "{0 a a a}", "{9 a b}", "<{0 a a}", ">{0 a a}"};
    int[] wants = {4, 4, 0, 1, 3};
    for (int i = 0; i < questions.length; i++) {
      Check.ask(well, questions[i]);
      Check.due("hits of " + questions[i], wants[i], well::hits);
    }
  }

  // ---- "the same, or made from it by one sign, a letter or a digit, put in, taken out or changed, or by two unlike
  // neighbours put about"

  private static void slips() {
    String signs = "abcdefghijklmnopqrstuvwxyz0123456789";
    for (String slip : new String[] {"a", "ab", "aa", "abc", "x1y", "abcdefghijk"}) {
      for (int place = 0; place <= slip.length(); place++) {
        String ahead = slip.substring(0, place);
        String behind = slip.substring(place);
        for (int i = 0; i < signs.length(); i += 5) {
          within(slip, ahead + signs.charAt(i) + behind, 1);
          if (!behind.isEmpty()) {
            within(slip, ahead + signs.charAt(i) + behind.substring(1), 1);
          }
        }
        if (!behind.isEmpty() && slip.length() > 1) {
          within(slip, ahead + behind.substring(1), 1);
        }
        if (behind.length() > 1) {
          within(slip, ahead + behind.charAt(1) + behind.charAt(0) + behind.substring(2), 1);
        }
        if (behind.length() > 2 && behind.charAt(0) != behind.charAt(2)) {
          within(slip, ahead + behind.charAt(2) + behind.charAt(1) + behind.charAt(0) + behind.substring(3), 0);
        }
        within(slip, ahead + "zz" + behind, 0);
      }
    }
    within("a", "bc", 0);
    within("ab", "cd", 0);
    within("abcd", "badc", 0);
    within("abcd", "acbx", 0);
    within("abcd", "bcd0", 0);
  }

  private static void within(String slip, String word, int want) {
    // A word that is shortened, or cut, is not the one that is meant.
    if (word.length() > 12 || !body(word).equals(word)) {
      return;
    }
    Seekwell well = Check.wellOf(word);
    Check.put(well, slip);
    Check.due(word + " is within a slip of " + slip, want, well::slips);
    Check.ask(well, slip + "~");
    Check.due(word + " fits " + slip + "~", want, well::hits);
    Object told = want == 0 || word.equals(slip) ? "throws.NoSuchElementException" : (Object) (long) word.length();
    Check.put(well, slip);
    Check.due(word + " is suggested for " + slip, told, well::suggest);
  }

  // ---- "times 1 more than how many texts there are; divided by 1 more than the length of the text, and by 1 more than
  // how many texts fit it alone"

  private static void worthOfNone() {
    Seekwell well = Check.wellOf("", "a");
    Check.ask(well, "a");
    Check.due("a text without words", "0/1", () -> Check.told(well, () -> well.tellWorth(0)));
    Check.due("one place of two words' parts", "3/4", () -> Check.told(well, () -> well.tellWorth(1)));
    Check.ask(well, "b");
    Check.due("a word that no text has", "0/1", () -> Check.told(well, () -> well.tellWorth(1)));
    Check.ask(well, "!b");
    Check.due("just behind a '!'", "0/1", () -> Check.told(well, () -> well.tellWorth(1)));
    Check.due("they fit all the same", List.of(0L, 1L), () -> List.of((long) well.hitAt(0), (long) well.hitAt(1)));
    Seekwell one = Check.wellOf("a");
    Check.ask(one, "a");
    Check.due("one text alone", "1/2", () -> Check.told(one, () -> one.tellWorth(0)));
    Seekwell all = new Seekwell();
    for (int i = 0; i < 24; i++) {
      Check.add(all, "a", 0, 'a');
    }
    Check.ask(all, "a");
    Check.due("24 texts that all fit", "1/2", () -> Check.told(all, () -> all.tellWorth(23)));
    Check.due("the lowest number first", 0, () -> all.hitAt(0));
    Check.due("the highest number last", 23, () -> all.hitAt(23));
    for (int i = 0; i < 23; i++) {
      all.drop(i);
    }
    Check.due("one of 24 is left", "1/2", () -> Check.told(all, () -> all.tellWorth(23)));
    Check.due("it is the first one", 23, () -> all.hitAt(0));
  }

  // ---- "The span of a text is the least row of places of its body in which each item that has a spot there has one
  // whole, the first of those as short"

  private static void spans() {
    String[][] spans = {
      {"a", "a", "0 1"}, {"a a", "a", "0 1"}, {"x a a", "a", "1 1"}, {"a b a b", "a&b", "0 2"},
      {"a x b a b", "a&b", "2 2"},
      {"a b", "\"a b\"", "0 2"}, {"a x a b", "\"a b\"", "2 2"}, {"a b x b", "\"a b\"&x", "0 3"},
      {"b x a b", "\"a b\"&x", "1 3"}, {"x", "x&!y", "0 1"}, {"x y", "x|y^9", "0 2"}, {"y|x", "x&y", "0 1"}
    };
    for (String[] each : spans) {
      Seekwell well = Check.wellOf(each[0]);
      Check.ask(well, each[1]);
      Check.due("the span of '" + each[0] + "' by " + each[1], each[2],
          () -> well.spanBegin(0) + " " + well.spanLength(0));
    }
  }
}
