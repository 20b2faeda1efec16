/** Promises 14 to 19: words, tellOf, having, beginning, slips, suggest. */
public final class WordsTest {
  private static final String[] WRONG = {
    "", " ", "dog ", " dog", "dog dog", "dog*", "dog~", "\"dog\"", "|dog", "dog|", "<dog", "!", "do-g", "dog."
  };

  public static void main(String[] args) {
    wordsInOrder();
    having();
    beginnings();
    slips();
    slipsAtTheEnds();
    suggesting();
    wrongWords();
    Check.end("WordsTest");
  }

  private static int having(Seekwell well, String word) {
    Check.put(well, word);
    return well.having();
  }

  private static int beginning(Seekwell well, String word) {
    Check.put(well, word);
    return well.beginning();
  }

  private static int slips(Seekwell well, String word) {
    Check.put(well, word);
    return well.slips();
  }

  private static String suggest(Seekwell well, String word) {
    Check.put(well, word);
    return Check.told(well, well::suggest);
  }

  /** A well has one word; tells whether the slip finds it. */
  private static int slipOf(String word, String slip) {
    return slips(Check.wellOf(word), slip);
  }

  private static void wordsInOrder() {
    Seekwell well = Check.wellOf("dogs|dog do", "b do9 do a9", "Dog a 9 10 1 doga");
    String[] order = {"1", "10", "9", "a", "a9", "b", "do", "do9", "dog", "doga"};
    Check.due("words", order.length, well::words);
    Check.put(well, "a text that is longer than all words");
    for (int i = 0; i < order.length; i++) {
      int index = i;
      Check.due("tellOf " + i, order[i], () -> Check.told(well, () -> well.tellOf(index)));
    }
    Check.refused("tellOf behind the last", "IndexOutOfBoundsException", well, () -> well.tellOf(order.length));
    Check.refused("tellOf -1", "IndexOutOfBoundsException", well, () -> well.tellOf(-1));
    Check.refused("tellOf greatest", "IndexOutOfBoundsException", well, () -> well.tellOf(Integer.MAX_VALUE));
    well.drop(1);
    Check.due("words of what is left", 7, well::words);
    Check.due("the order of what is left", "do", () -> Check.told(well, () -> well.tellOf(4)));
    Check.put(well, "z");
    well.revise(2);
    Check.due("words behind a revision", 3, well::words);
    Check.due("the last one", "z", () -> Check.told(well, () -> well.tellOf(2)));
    well.drop(0);
    well.drop(2);
    Check.due("no words", 0, well::words);
    Check.refused("tellOf of none", "IndexOutOfBoundsException", well, () -> well.tellOf(0));
    Seekwell other = Check.wellOf("b");
    Check.due("tellOf at once", "b", () -> Check.told(other, () -> other.tellOf(0)));
    Check.put(other, "c");
    other.add(0, 'a');
    Check.due("tellOf behind a new text", "c", () -> Check.told(other, () -> other.tellOf(1)));
    Seekwell titles = Check.wellOf("a b|", "b c|", "|d");
    Check.due("words of titles and bodies", 4, titles::words);
  }

  private static void having() {
    Seekwell well = Check.wellOf("dog dog|dog", "a dog", "dog|a", "dot", "x|dogma", "");
    Check.due("having dog", 3, () -> having(well, "dog"));
    Check.due("it takes the text", 0, well::erase);
    Check.due("having Dogs", 3, () -> having(well, "Dogs"));
    Check.due("having a", 2, () -> having(well, "a"));
    Check.due("having do", 0, () -> having(well, "do"));
    well.drop(0);
    Check.due("having behind a drop", 2, () -> having(well, "dog"));
    Check.due("a long word", 1, () -> having(Check.wellOf("abcdefghijklm"), "abcdefghijklxyz"));
  }

  private static void beginnings() {
    Seekwell well = Check.wellOf("dog dogma|dogs dot", "do domino d9", "cat");
    Check.due("beginning do", 5, () -> beginning(well, "do"));
    Check.due("it takes the text", 0, well::erase);
    Check.due("beginning DO", 5, () -> beginning(well, "DO"));
    Check.due("beginning dog", 2, () -> beginning(well, "dog"));
    Check.due("it is not shortened", 0, () -> beginning(well, "dogs"));
    Check.due("beginning d", 6, () -> beginning(well, "d"));
    Check.due("beginning d9", 1, () -> beginning(well, "d9"));
    Check.due("beginning o", 0, () -> beginning(well, "o"));
    Check.due("beginning dogmas", 0, () -> beginning(well, "dogmas"));
    Check.due("beginning cat, the whole word", 1, () -> beginning(well, "cat"));
    Check.due("twelve signs count", 1, () -> beginning(Check.wellOf("abcdefghijklm"), "abcdefghijklxyz"));
    Check.due("the last sign of twelve", 0, () -> beginning(Check.wellOf("abcdefghijklm"), "abcdefghijkm"));
    Check.due("zz", 1, () -> beginning(Check.wellOf("zzz"), "zz"));
    Check.due("the next word behind all that begin so", 0, () -> beginning(Check.wellOf("dp dn e"), "do"));
  }

  private static void slips() {
    Check.due("the same", 1, () -> slipOf("dog", "dog"));
    Check.due("small letters", 1, () -> slipOf("dog", "DOG"));
    Check.due("one put in first", 1, () -> slipOf("xdog", "dog"));
    Check.due("one put in", 1, () -> slipOf("do9g", "dog"));
    Check.due("one put in last", 1, () -> slipOf("dogx", "dog"));
    Check.due("one taken out first", 1, () -> slipOf("og", "dog"));
    Check.due("one taken out", 1, () -> slipOf("dg", "dog"));
    Check.due("one taken out last", 1, () -> slipOf("do", "dog"));
    Check.due("one changed first", 1, () -> slipOf("fog", "dog"));
    Check.due("one changed", 1, () -> slipOf("d0g", "dog"));
    Check.due("one changed last", 1, () -> slipOf("dot", "dog"));
    Check.due("put about first", 1, () -> slipOf("odg", "dog"));
    Check.due("put about last", 1, () -> slipOf("dgo", "dog"));
    Check.due("two changed", 0, () -> slipOf("dat", "dog"));
    Check.due("put about far", 0, () -> slipOf("god", "dog"));
    Check.due("two put in", 0, () -> slipOf("dogma", "dog"));
    Check.due("two taken out", 0, () -> slipOf("d", "dog"));
    Check.due("put about, and one more changed", 0, () -> slipOf("odgx", "dogy"));
    Check.due("put about, and one put in", 0, () -> slipOf("odgx", "dog"));
    Check.due("taken out, and put in elsewhere", 0, () -> slipOf("bcda", "abcd"));
    Check.due("like neighbours", 1, () -> slipOf("aab", "aba"));
    Check.due("one of like ones taken out", 1, () -> slipOf("aab", "aaab"));
    Check.due("a sign by itself", 1, () -> slipOf("a", "b"));
    Check.due("a sign by itself, put in", 1, () -> slipOf("ba", "a"));
    Check.due("a slip is not shortened", 1, () -> slipOf("dogs", "dogs"));
    Check.due("nor is it as a word would be", 0, () -> slipOf("bark", "barked"));
  }

  private static void slipsAtTheEnds() {
    Check.due("twelve signs, the last changed", 1, () -> slipOf("abcdefghijkl", "abcdefghijkm"));
    Check.due("twelve signs, the first put about", 1, () -> slipOf("bacdefghijkl", "abcdefghijkl"));
    Check.due("twelve signs, the last put about", 1, () -> slipOf("abcdefghijlk", "abcdefghijkl"));
    Check.due("twelve signs and eleven", 1, () -> slipOf("abcdefghijk", "abcdefghijkl"));
    Check.due("eleven signs and twelve", 1, () -> slipOf("abcdefghijkl", "abcdefghijk"));
    Check.due("twelve signs, one put in first", 0, () -> slipOf("xabcdefghijk", "abcdefghijkl"));
    Check.due("eleven signs, one put in first", 1, () -> slipOf("xabcdefghijk", "abcdefghijk"));
    Check.due("the first twelve signs count", 1, () -> slipOf("abcdefghijkl", "abcdefghijklmno"));
    Check.due("the ends of the signs", 1, () -> slipOf("zzzzzzzzzzzz", "zzzzzzzzzzz0"));
    Seekwell well = Check.wellOf("dog|dig dot", "dog cat dogma", "do fog");
    Check.due("unlike words within a slip", 5, () -> slips(well, "dog"));
    Check.due("it takes the text", 0, well::erase);
    Check.due("a slip of none", 0, () -> slips(well, "xyz"));
    Check.due("a slip without texts", 0, () -> slips(new Seekwell(), "dog"));
  }

  private static void suggesting() {
    Seekwell well = Check.wellOf("dog dog dog|dig", "dig dot", "dot", "fog cat", "do");
    Check.due("the one that most texts have, the first of like ones", "dig", () -> suggest(well, "dog"));
    well.drop(1);
    Check.due("one each, the first one", "dig", () -> suggest(well, "dog"));
    Check.due("not the same", "dog", () -> suggest(well, "dig"));
    Check.due("do, ahead of dog, for dgo", "do", () -> suggest(well, "DGO"));
    Check.due("dog for ddog", "dog", () -> suggest(well, "ddog"));
    Check.add(well, "dot", 0, 'a');
    Check.due("two have dot", "dot", () -> suggest(well, "dog"));
    Check.due("a slip is not shortened", "cat", () -> suggest(well, "cats"));
    Check.put(well, "xyz");
    Check.refused("suggest of none", "NoSuchElementException", well, well::suggest);
    Check.due("the text stays", "xyz", () -> Check.text(well));
    Check.put(well, "fog");
    Check.due("dog for fog, with its sign", "dog", () -> Check.told(well, well::suggest));
    Seekwell one = Check.wellOf("dog");
    Check.put(one, "dog");
    Check.refused("just the same", "NoSuchElementException", one, one::suggest);
    Check.put(one, "dogs");
    Check.due("dogs is not the same", 3, one::suggest);
    Check.put(one, "x" + "y".repeat(20));
    Check.refused("a long one", "NoSuchElementException", one, one::suggest);
  }

  private static void wrongWords() {
    Seekwell well = Check.wellOf("dog|dog", "a");
    for (String wrong : WRONG) {
      Check.put(well, wrong);
      String named = " '" + wrong + "'";
      Check.refused("having" + named, "IllegalArgumentException", well, well::having);
      Check.refused("beginning" + named, "IllegalArgumentException", well, well::beginning);
      Check.refused("slips" + named, "IllegalArgumentException", well, well::slips);
      Check.refused("suggest" + named, "IllegalArgumentException", well, well::suggest);
      Check.due("the text stays" + named, wrong, () -> Check.text(well));
    }
  }
}
