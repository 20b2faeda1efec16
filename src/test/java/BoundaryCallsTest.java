import java.util.List;
import java.util.function.Function;

/** The boundary cases of promises 1 to 25: the least, the greatest, the first beyond, none, all, and the refused. */
public final class BoundaryCallsTest {
  private static final String ARGUMENT = "IllegalArgumentException";
  private static final String STATE = "IllegalStateException";
  private static final String INDEX = "IndexOutOfBoundsException";
  private static final String NONE = "NoSuchElementException";
  private static final String UNSUPPORTED = "UnsupportedOperationException";

  private BoundaryCallsTest() {
  }

  public static void main(String[] args) {
    newTexts();
    newWordsAndParts();
    newQuestions();
    newWhole();
    twoObjects();
    mostCalls();
    typing();
    theFullText();
    placesOfTheText();
    valuesAndTags();
    numbersOfTexts();
    numbersThatAreNot();
    placesOfWords();
    unlikeWords();
    placesInTheOrder();
    oneWordAlone();
    howManyHave();
    howManyBegin();
    howManySlips();
    suggestions();
    numbersOfParts();
    sealing();
    joining();
    packedRows();
    Check.end("BoundaryCallsTest");
  }

  // ---- 1: "a well without texts, with one empty part, an empty text, and no question"

  private static void ofNew(String call, Object want, Function<Seekwell, Object> answer) {
    Seekwell well = new Seekwell();
    String named = "a new one: " + call;
    if (want.toString().startsWith("throws.")) {
      Check.refused(named, want.toString().substring(7), well, () -> answer.apply(well));
    } else {
      Check.due(named, want, () -> answer.apply(well));
    }
  }

  private static void newTexts() {
    ofNew("type", 1, well -> well.type('a'));
    ofNew("erase", 0, Seekwell::erase);
    ofNew("signAt 0", "throws." + INDEX, well -> well.signAt(0));
    ofNew("add", 0, well -> well.add(0, 'a'));
    ofNew("revise 0", "throws." + NONE, well -> well.revise(0));
    ofNew("drop 0", "throws." + NONE, well -> well.drop(0));
    ofNew("texts", 0, Seekwell::texts);
    ofNew("isThere 0", false, well -> well.isThere(0));
    ofNew("length 0", "throws." + NONE, well -> well.length(0));
    ofNew("tellWord 0, 0", "throws." + NONE, well -> well.tellWord(0, false, 0));
    ofNew("value 0", "throws." + NONE, well -> well.value(0));
    ofNew("tag 0", "throws." + NONE, well -> well.tag(0));
  }

  private static void newWordsAndParts() {
    ofNew("words", 0, Seekwell::words);
    ofNew("tellOf 0", "throws." + INDEX, well -> well.tellOf(0));
    ofNew("having", "throws." + ARGUMENT, Seekwell::having);
    ofNew("beginning", "throws." + ARGUMENT, Seekwell::beginning);
    ofNew("slips", "throws." + ARGUMENT, Seekwell::slips);
    ofNew("suggest", "throws." + ARGUMENT, Seekwell::suggest);
    ofNew("parts", 1, Seekwell::parts);
    ofNew("partSize 0", 0, well -> well.partSize(0));
    ofNew("partSize 1", "throws." + INDEX, well -> well.partSize(1));
    ofNew("seal", "throws." + UNSUPPORTED, Seekwell::seal);
    ofNew("join 0", "throws." + INDEX, well -> well.join(0));
    ofNew("packed 0", "throws." + ARGUMENT, well -> well.packed(0));
    ofNew("packed 1", "throws." + INDEX, well -> well.packed(1));
    ofNew("byteAt 0", "throws." + INDEX, well -> well.byteAt(0));
  }

  private static void newQuestions() {
    ofNew("ask", -1, Seekwell::ask);
    ofNew("simplify", "throws." + STATE, Seekwell::simplify);
    ofNew("tellQuestion", "throws." + STATE, Seekwell::tellQuestion);
    ofNew("fits 0", "throws." + STATE, well -> well.fits(0));
    ofNew("hits", "throws." + STATE, Seekwell::hits);
    ofNew("hitAt 0", "throws." + STATE, well -> well.hitAt(0));
    ofNew("top 1, 0", "throws." + STATE, well -> well.top(1, 0));
    ofNew("tellWorth 0", "throws." + STATE, well -> well.tellWorth(0));
    ofNew("tagged a", "throws." + STATE, well -> well.tagged('a'));
    ofNew("valued 0, 999", "throws." + STATE, well -> well.valued(0, 999));
    ofNew("valued 1, 0", "throws." + STATE, well -> well.valued(1, 0));
    ofNew("spanBegin 0", "throws." + STATE, well -> well.spanBegin(0));
    ofNew("spanLength 0", "throws." + STATE, well -> well.spanLength(0));
    ofNew("save 0", "throws." + STATE, well -> well.save(0));
    ofNew("news 0", "throws." + NONE, well -> well.news(0));
  }

  private static void newWhole() {
    ofNew("likeness 0, 0", "throws." + NONE, well -> well.likeness(0, 0));
    ofNew("write", 0, Seekwell::write);
    ofNew("writtenAt 0", "throws." + INDEX, well -> well.writtenAt(0));
    ofNew("reread", "throws." + NONE, Seekwell::reread);
    ofNew("checksum", 7L * 31, Seekwell::checksum);
    ofNew("isSound", true, Seekwell::isSound);
  }

  private static void twoObjects() {
    Seekwell one = Check.wellOf("dog", "cat");
    Seekwell other = new Seekwell();
    one.seal();
    Check.ask(one, "dog");
    one.save(0);
    one.write();
    Check.put(one, "dog");
    one.packed(0);
    Check.put(one, "x");
    Check.due("one object knows nothing of another: texts", 0, other::texts);
    Check.due("parts", 1, other::parts);
    Check.due("the question", "throws." + STATE, other::hits);
    Check.due("what was written", "throws." + NONE, other::reread);
    Check.due("the packed row", "throws." + INDEX, () -> other.byteAt(0));
    Check.due("the text", 0, other::erase);
    Check.add(other, "bird", 0, 'a');
    Check.due("what is saved", 0, () -> other.news(0));
    Check.due("and the one nothing of the other", 2, one::texts);
  }

  // ---- "An object is used for at most 512 calls after it has been made"

  private static void mostCalls() {
    Seekwell well = new Seekwell();
    int calls = 0;
    while (calls < 24 * 17) {
      for (int i = 0; i < 16; i++) {
        well.type((char) ('a' + calls++ % 26));
      }
      well.add(calls++ % 1000, 'a');
    }
    while (calls < 510) {
      well.type('a');
      calls++;
    }
    Check.due("the call 511", 24, well::texts);
    Check.due("the call 512", true, well::isSound);
  }

  // ---- 2 to 4: "if its code is not 32 to 126", "if the text has 160 signs, or more", "if there is no such place"

  private static void typing() {
    for (int code = 0; code < 70000; code += code < 400 ? 1 : 997) {
      char sign = (char) Math.min(code, 65535);
      Object want = sign >= 32 && sign <= 126 ? (Object) 2 : "throws." + ARGUMENT;
      Seekwell well = new Seekwell();
      well.type('x');
      Check.due("type " + (int) sign, want, () -> well.type(sign));
      Check.due("the text behind type " + (int) sign, sign >= 32 && sign <= 126 ? "x" + sign : "x",
          () -> Check.text(well));
    }
    Seekwell well = new Seekwell();
    for (char sign : new char[] {31, 127, 0, 10, 128, 160, 255, 256 + 65, 65535}) {
      Check.refused("type " + (int) sign, ARGUMENT, well, () -> well.type(sign));
    }
  }

  private static void theFullText() {
    Seekwell well = new Seekwell();
    for (int i = 1; i <= 159; i++) {
      well.type('a');
    }
    Check.due("the sign 160", 160, () -> well.type('z'));
    Check.refused("the sign 161", STATE, well, () -> well.type('z'));
    Check.refused("the sign 161, of the code 31", ARGUMENT, well, () -> well.type((char) 31));
    Check.refused("the sign 161, of the code 127", ARGUMENT, well, () -> well.type((char) 127));
    Check.due("the sign at 159", 'z', () -> well.signAt(159));
    Check.refused("the sign at 160", INDEX, well, () -> well.signAt(160));
    Check.due("erase of the full text", 160, well::erase);
    Check.refused("the sign at 0, all gone", INDEX, well, () -> well.signAt(0));
    Check.due("erase of the empty text", 0, well::erase);
    Check.due("it can be typed again", 1, () -> well.type('b'));
    Check.due("from the first sign on", "b", () -> Check.text(well));
    Check.due("erase of one sign", 1, well::erase);
  }

  private static void placesOfTheText() {
    int[] never = {-1, Integer.MIN_VALUE, Integer.MAX_VALUE};
    for (String text : new String[] {"", "x", "xy", " ~", "a".repeat(160)}) {
      Seekwell well = new Seekwell();
      Check.put(well, text);
      int size = text.length();
      if (size > 0) {
        Check.due("the first sign of " + size, text.charAt(0), () -> well.signAt(0));
        Check.due("the last sign of " + size, text.charAt(size - 1), () -> well.signAt(size - 1));
      }
      Check.refused("behind the last sign of " + size, INDEX, well, () -> well.signAt(size));
      for (int place : never) {
        Check.refused("signAt " + place + " of " + size, INDEX, well, () -> well.signAt(place));
      }
    }
  }

  // ---- 5: "if the value or the tag is out of range", "if 24 came"

  private static void valuesAndTags() {
    Seekwell well = new Seekwell();
    Check.put(well, "dog");
    for (int value : new int[] {-1, 1000, Integer.MIN_VALUE, Integer.MAX_VALUE, -999, 65536}) {
      Check.refused("add with the value " + value, ARGUMENT, well, () -> well.add(value, 'a'));
      Check.refused("add with the value " + value + ", and no tag", ARGUMENT, well, () -> well.add(value, '{'));
    }
    for (char tag : new char[] {'`', '{', '@', 'A', 'Z', '[', ' ', '0', 0, 65535, 256 + 'a'}) {
      Check.refused("add with the tag " + (int) tag, ARGUMENT, well, () -> well.add(0, tag));
    }
    Check.due("a refused one takes no number", 0, () -> well.add(0, 'a'));
    Check.due("its word", "dog", () -> Check.told(well, () -> well.tellWord(0, false, 0)));
    Check.due("the greatest value, the last tag", 1, () -> well.add(999, 'z'));
    Check.due("value 0", 0, () -> well.value(0));
    Check.due("value 999", 999, () -> well.value(1));
    Check.due("tag a", 'a', () -> well.tag(0));
    Check.due("tag z", 'z', () -> well.tag(1));
    for (int i = 2; i < 24; i++) {
      int number = i;
      Check.due("value and tag " + i, number, () -> well.add(number * 43, (char) ('a' + number)));
      Check.due("the value " + i, number * 43, () -> well.value(number));
      Check.due("the tag " + i, (char) ('a' + number), () -> well.tag(number));
    }
  }

  private static void numbersOfTexts() {
    Seekwell well = new Seekwell();
    for (int i = 0; i < 24; i++) {
      int number = i;
      Check.refused("number " + i + " did not come", NONE, well, () -> well.length(number));
      Check.due("number " + i, number, () -> well.add(0, 'a'));
      Check.due("it is there " + i, true, () -> well.isThere(number));
      Check.due("the next one is not " + i, false, () -> well.isThere(number + 1));
      Check.due("how many " + i, number + 1, well::texts);
    }
    Check.put(well, "more");
    Check.refused("the text 25", STATE, well, () -> well.add(0, 'a'));
    Check.refused("the text 25, its value -1", ARGUMENT, well, () -> well.add(-1, 'a'));
    Check.refused("the text 25, its value 1000", ARGUMENT, well, () -> well.add(1000, 'a'));
    Check.refused("the text 25, its tag `", ARGUMENT, well, () -> well.add(0, '`'));
    Check.refused("the text 25, its tag {", ARGUMENT, well, () -> well.add(0, '{'));
    for (int left = 23; left >= 0; left--) {
      int number = left;
      Check.due("drop, " + left + " are left", left, () -> well.drop(number));
      Check.due("it went, " + left, false, () -> well.isThere(number));
    }
    Check.refused("24 came, and went", STATE, well, () -> well.add(0, 'a'));
    Check.due("the text is still there", "more", () -> Check.text(well));
  }

  // ---- 6, 7, 9 to 13: "if there is no such text, or it went"

  private static void numbersThatAreNot() {
    Seekwell well = Check.wellOf("a b", "b a", "a b");
    well.drop(1);
    Check.ask(well, "a");
    Check.put(well, "kept");
    for (int number : new int[] {1, 3, 23, 24, -1, Integer.MIN_VALUE, Integer.MAX_VALUE}) {
      String named = " of text " + number;
      Check.due("isThere" + named, false, () -> well.isThere(number));
      Check.refused("revise" + named, NONE, well, () -> well.revise(number));
      Check.refused("drop" + named, NONE, well, () -> well.drop(number));
      Check.refused("length" + named, NONE, well, () -> well.length(number));
      Check.refused("tellWord" + named, NONE, well, () -> well.tellWord(number, false, 0));
      Check.refused("tellWord at no place" + named, NONE, well, () -> well.tellWord(number, true, -1));
      Check.refused("value" + named, NONE, well, () -> well.value(number));
      Check.refused("tag" + named, NONE, well, () -> well.tag(number));
      Check.refused("fits" + named, NONE, well, () -> well.fits(number));
      Check.refused("tellWorth" + named, NONE, well, () -> well.tellWorth(number));
      Check.refused("spanBegin" + named, NONE, well, () -> well.spanBegin(number));
      Check.refused("spanLength" + named, NONE, well, () -> well.spanLength(number));
      Check.refused("news" + named, NONE, well, () -> well.news(number));
      Check.refused("likeness, first," + named, NONE, well, () -> well.likeness(number, 0));
      Check.refused("likeness, second," + named, NONE, well, () -> well.likeness(0, number));
      Check.refused("likeness, both," + named, NONE, well, () -> well.likeness(number, number));
    }
    for (int number : new int[] {0, 2}) {
      Check.due("text " + number + " is there", "true 2 true 1000 0",
          () -> well.isThere(number) + " " + well.length(number) + " " + well.fits(number) + " "
              + well.likeness(number, 0) + " " + well.news(number));
    }
    Check.due("revise of the first one", 1, () -> well.revise(0));
    Check.due("drop of the last one", 1, () -> well.drop(2));
  }

  // ---- 11: "if there is no such place"

  private static void placesOfWords() {
    Seekwell well = Check.wellOf("a b|c d e", "|", "a|", "b", "a" + " b".repeat(78) + " c");
    int[][] sizes = {{2, 3}, {0, 0}, {1, 0}, {0, 1}, {0, 80}};
    String[][] firsts = {{"a", "c"}, {"", ""}, {"a", ""}, {"", "b"}, {"", "a"}};
    String[][] lasts = {{"b", "e"}, {"", ""}, {"a", ""}, {"", "b"}, {"", "c"}};
    for (int i = 0; i < sizes.length; i++) {
      for (int row = 0; row < 2; row++) {
        int number = i;
        int size = sizes[i][row];
        boolean isTitle = row == 0;
        String named = (isTitle ? "the title" : "the body") + " of text " + i + " at ";
        Check.put(well, "kept");
        for (int place : new int[] {-1, size, size + 1, Integer.MIN_VALUE, Integer.MAX_VALUE}) {
          Check.refused(named + place, INDEX, well, () -> well.tellWord(number, isTitle, place));
        }
        if (size > 0) {
          Check.due(named + 0, firsts[i][row], () -> Check.told(well, () -> well.tellWord(number, isTitle, 0)));
          Check.due(named + (size - 1), lasts[i][row],
              () -> Check.told(well, () -> well.tellWord(number, isTitle, size - 1)));
        }
      }
    }
  }

  // ---- 14 and 15: "how many unlike words", "sign by sign by their codes, a word ahead of those that it begins"

  private static void unlikeWords() {
    String[][] texts = {{""}, {"|"}, {"a"}, {"a a|A a"}, {"a", "a", "a|a"}, {"a", "b"}, {"dog dogs", "dogging"}};
    int[] wants = {0, 0, 1, 1, 1, 2, 2};
    for (int i = 0; i < texts.length; i++) {
      Seekwell well = Check.wellOf(texts[i]);
      Check.due("unlike words of " + List.of(texts[i]), wants[i], well::words);
    }
    Seekwell well = Check.wellOf("a b", "b c");
    well.drop(0);
    Check.due("one that went has no words", 2, well::words);
    well.drop(1);
    Check.due("none are left", 0, well::words);
    Check.refused("tellOf 0 of none", INDEX, well, () -> well.tellOf(0));
    Seekwell full = new Seekwell();
    for (char first = 'a'; first < 'a' + 24; first++) {
      StringBuilder text = new StringBuilder();
      for (char second : "0123456789abcdefghijklmnopqrstuvwxyz".toCharArray()) {
        text.append(first).append(second).append(' ');
      }
      Check.add(full, text.toString(), 0, 'a');
    }
    Check.due("the words of 24 texts", 24 * 36, full::words);
    Check.due("the first one", "a0", () -> Check.told(full, () -> full.tellOf(0)));
    Check.due("the last one", "xz", () -> Check.told(full, () -> full.tellOf(24 * 36 - 1)));
    Check.refused("behind the last one", INDEX, full, () -> full.tellOf(24 * 36));
  }

  private static void placesInTheOrder() {
    Seekwell well = Check.wellOf("b ab a0|zz", "z 9 Zz a 0 aa", "00 zzzzzzzzzzzz abcdefghijkl abcdefghijk zzzzzzzzzzz");
    String[] order = {
      "0", "00", "9", "a", "a0", "aa", "ab", "abcdefghijk", "abcdefghijkl", "b", "z", "zz", "zzzzzzzzzzz",
      "zzzzzzzzzzzz"
    };
    Check.due("words", order.length, well::words);
    for (int i = 0; i < order.length; i++) {
      int index = i;
      Check.due("tellOf " + i, order[i], () -> Check.told(well, () -> well.tellOf(index)));
    }
    Check.put(well, "kept");
    for (int index : new int[] {-1, order.length, order.length + 1, Integer.MIN_VALUE, Integer.MAX_VALUE}) {
      Check.refused("tellOf " + index, INDEX, well, () -> well.tellOf(index));
    }
  }

  // ---- 16 to 19 and 24: "if the text has no word, or anything else ahead of it or behind it"

  private static void oneWordAlone() {
    Seekwell well = Check.wellOf("dog dig", "a z 0 9");
    String[] wrongs = {"", " ", "|", "dog ", " dog", "dog dig", "dog|", "|dog", "dog*", "dog~", "\"dog\"", "<dog",
        "!dog", "(dog)", "dog^2", "do g", "~", " ".repeat(160), "a".repeat(159) + " ", " " + "a".repeat(159)};
    for (String wrong : wrongs) {
      Check.put(well, wrong);
      String named = " of '" + wrong + "'";
      Check.refused("having" + named, ARGUMENT, well, well::having);
      Check.refused("beginning" + named, ARGUMENT, well, well::beginning);
      Check.refused("slips" + named, ARGUMENT, well, well::slips);
      Check.refused("suggest" + named, ARGUMENT, well, well::suggest);
      Check.refused("packed" + named, ARGUMENT, well, () -> well.packed(0));
      Check.refused("packed of no part" + named, INDEX, well, () -> well.packed(1));
    }
    for (int code = 32; code <= 126; code++) {
      char sign = (char) code;
      boolean isWord = sign >= '0' && sign <= '9' || sign >= 'A' && sign <= 'Z' || sign >= 'a' && sign <= 'z';
      String want = isWord ? "a number" : "throws." + ARGUMENT;
      for (String word : new String[] {"" + sign, "q" + sign, sign + "q"}) {
        Check.put(well, word);
        Check.due("having '" + word + "'", want, () -> well.having() >= 0 ? "a number" : "below 0");
      }
    }
    Check.put(well, "d" + "o".repeat(159));
    Check.due("a word of 160 signs", 0, well::having);
  }

  // ---- 16 to 18: none, one and all

  private static void howManyHave() {
    Seekwell well = new Seekwell();
    Check.put(well, "dog");
    Check.due("having, no texts", 0, well::having);
    for (int i = 0; i < 24; i++) {
      Check.add(well, i % 2 == 0 ? "dogs|" : "|a dog dog", 0, 'a');
      Check.put(well, "DOG");
      Check.due("having of " + (i + 1), i + 1, well::having);
    }
    Check.put(well, "a");
    Check.due("having of half", 12, well::having);
    well.drop(1);
    Check.put(well, "a");
    Check.due("one went", 11, well::having);
    Check.put(well, "dogs");
    Check.due("as a word it is shortened", 23, well::having);
  }

  private static void howManyBegin() {
    Seekwell well = new Seekwell();
    Check.put(well, "a");
    Check.due("beginning, no texts", 0, well::beginning);
    Check.add(well, "a ab abc|abcdefghijkl abcdefghijk", 0, 'a');
    Check.add(well, "b 0a ba `az {a", 0, 'a');
    String[] begins = {
      "a", "A", "ab", "abc", "abcd", "abcdefghijk", "abcdefghijkl", "abcdefghijklm", "b", "z", "0", "aa", "abd"
    };
    int[] wants = {6, 6, 4, 3, 2, 2, 1, 1, 2, 0, 1, 0, 0};
    for (int i = 0; i < begins.length; i++) {
      Check.put(well, begins[i]);
      Check.due("beginning " + begins[i], wants[i], well::beginning);
    }
  }

  private static void howManySlips() {
    Seekwell well = new Seekwell();
    Check.put(well, "a");
    Check.due("slips, no texts", 0, well::slips);
    StringBuilder text = new StringBuilder("ab ");
    for (char sign = 'a'; sign <= 'z'; sign++) {
      text.append(sign).append(' ');
    }
    Check.add(well, text + "0 1 2 3 4 5 6 7 8 9", 0, 'a');
    Check.put(well, "q");
    Check.due("all of one sign are within a slip of one", 36, well::slips);
    Check.put(well, "A");
    Check.due("and one that has a sign more", 37, well::slips);
    Check.put(well, "ab");
    Check.due("itself, and a sign taken out on either side", 3, well::slips);
    Check.put(well, "ba");
    Check.due("put about, and a sign taken out on either side", 3, well::slips);
    Check.put(well, "abc");
    Check.due("one taken out, not two", 1, well::slips);
    Check.put(well, "cabd");
    Check.due("none", 0, well::slips);
  }

  // ---- 19: "within a slip of it, but not the same, that most texts have, of like ones the first one", and
  // "if there is none"

  private static void suggestions() {
    Seekwell well = new Seekwell();
    Check.put(well, "dog");
    Check.refused("suggest, no texts", NONE, well, well::suggest);
    Check.put(well, "do g");
    Check.refused("suggest, no texts, and no word", ARGUMENT, well, well::suggest);
    Check.add(well, "dog cat", 0, 'a');
    Check.put(well, "DOG");
    Check.refused("just the same", NONE, well, well::suggest);
    Check.put(well, "doggy");
    Check.refused("two slips", NONE, well, well::suggest);
    Check.put(well, "dogg");
    Check.due("one slip", "dog", () -> Check.told(well, well::suggest));
    Check.add(well, "dot dot dot doz", 0, 'a');
    Check.put(well, "doc");
    Check.due("one text each: the first one", "dog", () -> Check.told(well, well::suggest));
    Check.add(well, "doz", 0, 'a');
    Check.put(well, "doc");
    Check.due("two texts have the last one", "doz", () -> Check.told(well, well::suggest));
    Check.add(well, "dot", 0, 'a');
    Check.put(well, "doc");
    Check.due("of two with two texts the first one", "dot", () -> Check.told(well, well::suggest));
    Check.put(well, "dot");
    Check.due("not the same, though most texts have it", "doz", () -> Check.told(well, well::suggest));
    Check.add(well, "abcdefghijkl", 0, 'a');
    Check.put(well, "abcdefghijklz");
    Check.refused("the same by its first 12 signs", NONE, well, well::suggest);
    Check.due("the text stays", 13, well::erase);
  }

  // ---- 20 to 23: "if there is no such part", "if the newest part has no texts", "if there are 8 parts", and
  // "or none behind it"

  private static void numbersOfParts() {
    Seekwell well = new Seekwell();
    for (int count = 1; count <= 8; count++) {
      int parts = count;
      Check.due("parts", parts, well::parts);
      for (int part : new int[] {-1, count, count + 1, 8, Integer.MIN_VALUE, Integer.MAX_VALUE}) {
        Check.put(well, "a");
        Check.refused("partSize " + part + " of " + count, INDEX, well, () -> well.partSize(part));
        Check.refused("packed " + part + " of " + count, INDEX, well, () -> well.packed(part));
        Check.refused("join " + part + " of " + count, INDEX, well, () -> well.join(part));
      }
      Check.refused("join of the newest of " + count, INDEX, well, () -> well.join(parts - 1));
      Check.due("the newest is empty", 0, () -> well.partSize(parts - 1));
      Check.put(well, "a");
      Check.due("the packed row in it too", 0, () -> well.packed(parts - 1));
      Check.add(well, "a", 0, 'a');
      Check.due("the first one has one", 1, () -> well.partSize(0));
      Check.due("the newest one too", 1, () -> well.partSize(parts - 1));
      Check.put(well, "a");
      Check.due("and a packed row", 4, () -> well.packed(parts - 1));
      if (count < 8) {
        well.seal();
      }
    }
  }

  private static void sealing() {
    Seekwell well = Check.wellOf("a");
    for (int parts = 2; parts <= 8; parts++) {
      Check.due("seal", parts, well::seal);
      Check.refused("the newest has no texts, of " + parts, UNSUPPORTED, well, well::seal);
      well.add(0, 'a');
    }
    Check.refused("seal of 8 parts", STATE, well, well::seal);
    well.add(0, 'a');
    Check.refused("seal of 8 parts, two texts in the newest", STATE, well, well::seal);
    well.drop(8);
    well.drop(7);
    Check.refused("seal of 8 parts, and no texts in the newest", UNSUPPORTED, well, well::seal);
    well.revise(0);
    Check.refused("a revised one came to the newest", STATE, well, well::seal);
    Check.due("it left the first one", 0, () -> well.partSize(0));
    Check.due("join of the first two", 1, () -> well.join(0));
    Check.due("7 parts, one text in the newest", 8, well::seal);
    Check.due("a new one is empty", 0, () -> well.partSize(7));
    Seekwell gone = Check.wellOf("a");
    gone.drop(0);
    Check.refused("its only text went", UNSUPPORTED, gone, gone::seal);
    gone.add(0, 'a');
    gone.seal();
    gone.revise(1);
    Check.due("a part is left empty, the newest is not", "0 1", () -> gone.partSize(0) + " " + gone.partSize(1));
    Check.due("so it can be sealed", 3, gone::seal);
  }

  private static void joining() {
    Seekwell well = new Seekwell();
    for (int part = 0; part < 8; part++) {
      for (int i = 0; i < (part == 0 ? 3 : 1); i++) {
        well.add(part, 'a');
      }
      if (part < 7) {
        well.seal();
      }
    }
    Check.put(well, "kept");
    Check.refused("join of the last of 8", INDEX, well, () -> well.join(7));
    Check.due("join of the last two", 2, () -> well.join(6));
    Check.refused("now it is the last", INDEX, well, () -> well.join(6));
    Check.due("join of the first two", 4, () -> well.join(0));
    Check.due("6 are left", "4 1 1 1 1 2", () -> sizes(well));
    well.drop(4);
    well.drop(5);
    Check.due("join of two that are empty", 0, () -> well.join(1));
    Check.due("5 are left", "4 0 1 1 2", () -> sizes(well));
    Check.due("with one ahead", 4, () -> well.join(0));
    Check.due("and behind", 2, () -> well.join(1));
    Check.due("and so on", 4, () -> well.join(1));
    Check.due("all in one", 8, () -> well.join(0));
    Check.due("the only one", "8", () -> sizes(well));
    Check.refused("join of the only one", INDEX, well, () -> well.join(0));
    Check.refused("join of -1", INDEX, well, () -> well.join(-1));
    Check.due("the text stays", "kept", () -> Check.text(well));
  }

  private static String sizes(Seekwell well) {
    StringBuilder sizes = new StringBuilder();
    for (int part = 0; part < well.parts(); part++) {
      sizes.append(part > 0 ? " " : "").append(well.partSize(part));
    }
    return sizes.toString();
  }

  // ---- 24 and 25: the packed row that is told, "if there is no such byte"

  private static void packedRows() {
    Seekwell well = new Seekwell();
    for (int i = 0; i < 24; i++) {
      Check.add(well, i == 0 ? "b a" + " b".repeat(77) + " a" : i == 23 ? "a|a" : "", 0, 'a');
    }
    Check.put(well, "dog");
    Check.due("the packed row of no text", 0, () -> well.packed(0));
    Check.refused("it has no byte", INDEX, well, () -> well.byteAt(0));
    Check.put(well, "A");
    List<Integer> row = List.of(0, 0, 2, 1, 78, 23, 1, 0, 1, 0);
    Check.due("the first text, the last one, and the last place", row.size(), () -> well.packed(0));
    Check.due("its bytes", row, () -> Check.bytes(well::byteAt));
    Check.due("its first byte", 0, () -> well.byteAt(0));
    Check.due("a byte inside", 78, () -> well.byteAt(4));
    Check.due("its last byte", 0, () -> well.byteAt(row.size() - 1));
    for (int index : new int[] {-1, row.size(), row.size() + 1, Integer.MIN_VALUE, Integer.MAX_VALUE}) {
      Check.refused("byteAt " + index, INDEX, well, () -> well.byteAt(index));
    }
    Check.put(well, "b");
    Check.refused("packed of no part", INDEX, well, () -> well.packed(1));
    Check.due("the row of before is told", row, () -> Check.bytes(well::byteAt));
    Check.put(well, "b b");
    Check.refused("packed of no word", ARGUMENT, well, () -> well.packed(0));
    Check.due("the row of before is still told", row, () -> Check.bytes(well::byteAt));
    Check.put(well, "b");
    Check.due("a row of 78 places", 3 + 78, () -> well.packed(0));
    Check.due("its first places", List.of(0, 0, 78, 0, 2, 1), () -> Check.bytes(well::byteAt).subList(0, 6));
  }
}
