/** Promises 5 to 13: add, revise, drop, texts, isThere, length, tellWord, value, tag. */
public final class TextsTest {
  public static void main(String[] args) {
    adding();
    wrongAdding();
    readingWords();
    shortening();
    titles();
    revising();
    dropping();
    telling();
    Check.end("TextsTest");
  }

  /** The words of a text, the title's ahead of a bar. */
  private static String words(Seekwell well, int number) {
    StringBuilder all = new StringBuilder();
    for (boolean isTitle : new boolean[] {true, false}) {
      for (int place = 0;; place++) {
        int at = place;
        String word = Check.told(well, () -> well.tellWord(number, isTitle, at));
        if (word.startsWith("throws.")) {
          break;
        }
        all.append(place > 0 ? " " : "").append(word);
      }
      all.append(isTitle ? "|" : "");
    }
    well.erase();
    return all.toString();
  }

  private static String read(String text) {
    Seekwell well = Check.wellOf(text);
    return words(well, 0);
  }

  private static void adding() {
    Seekwell well = new Seekwell();
    for (int i = 0; i < 24; i++) {
      int number = i;
      Check.put(well, "w" + i);
      Check.due("add " + i, number, () -> well.add(number, (char) ('a' + number)));
      Check.due("add takes the text " + i, 0, well::erase);
      Check.due("texts " + i, number + 1, well::texts);
      Check.due("its word " + i, "|w" + i, () -> words(well, number));
      Check.due("its value " + i, number, () -> well.value(number));
      Check.due("its tag " + i, (char) ('a' + number), () -> well.tag(number));
    }
    Check.put(well, "one more");
    Check.refused("add 25", "IllegalStateException", well, () -> well.add(1, 'a'));
    Check.refused("add 25 with a wrong value", "IllegalArgumentException", well, () -> well.add(1000, 'a'));
    Check.refused("add 25 with a wrong tag", "IllegalArgumentException", well, () -> well.add(1, 'A'));
    well.drop(3);
    Check.refused("24 came, though one went", "IllegalStateException", well, () -> well.add(1, 'a'));
  }

  private static void wrongAdding() {
    Seekwell well = new Seekwell();
    Check.put(well, "dog");
    Check.refused("value -1", "IllegalArgumentException", well, () -> well.add(-1, 'a'));
    Check.refused("value 1000", "IllegalArgumentException", well, () -> well.add(1000, 'a'));
    Check.refused("tag ahead of a", "IllegalArgumentException", well, () -> well.add(0, '`'));
    Check.refused("tag behind z", "IllegalArgumentException", well, () -> well.add(0, '{'));
    Check.refused("tag A", "IllegalArgumentException", well, () -> well.add(0, 'A'));
    Check.refused("least value", "IllegalArgumentException", well, () -> well.add(Integer.MIN_VALUE, 'a'));
    Check.due("the text is still there", 0, () -> well.add(0, 'z'));
    Check.due("and is read", "|dog", () -> words(well, 0));
    Check.due("value 999", 1, () -> well.add(999, 'a'));
    Check.due("an empty text", "|", () -> words(well, 1));
    Check.due("its length", 0, () -> well.length(1));
    Check.due("its value", 999, () -> well.value(1));
    Check.due("the first tag", 'z', () -> well.tag(0));
  }

  private static void readingWords() {
    Check.due("small letters", "|old dog", () -> read("OLD Dog"));
    Check.due("other signs part words", "|a b c d 7 e f", () -> read("a,b-c.d~7`e{f"));
    Check.due("letters and digits go together", "|a1b2 3d", () -> read("A1b2 3D"));
    Check.due("no word", "|", () -> read(" !?,~ "));
    Check.due("twelve signs", "|abcdefghijkl", () -> read("abcdefghijkl"));
    Check.due("the first twelve signs", "|abcdefghijkl x", () -> read("ABCDEFGHIJKLMNOP x"));
    Check.due("a word as long as it goes", "|" + "a".repeat(12), () -> read("a".repeat(160)));
    Check.due("all signs are kept", "|" + "a ".repeat(79) + "a", () -> read("a ".repeat(80)));
    Check.due("the ends of letters and digits", "|az az 09", () -> read("@AZ[`az{/09:"));
  }

  private static void shortening() {
    Check.due("s", "|dog cat", () -> read("dogs cats"));
    Check.due("three signs stay", "|gas bus as s", () -> read("gas bus as s"));
    Check.due("not two s", "|buss boss ass", () -> read("buss boss ass"));
    Check.due("one s alone goes", "|ase house", () -> read("ases houses"));
    Check.due("ing longer than 5", "|bark sit", () -> read("barking siting"));
    Check.due("five signs and ing stay", "|bring doing going", () -> read("bring doing goings"));
    Check.due("six signs and ing go", "|str", () -> read("string"));
    Check.due("s, then ing", "|str king bring", () -> read("strings kings brings"));
    Check.due("ed longer than 4", "|shed bark shed bed", () -> read("shed barked sheds beds"));
    Check.due("five signs and ed go", "|add", () -> read("added"));
    Check.due("ing, but not ed then", "|need", () -> read("needing"));
    Check.due("ed, but not ing then", "|ring", () -> read("ringed"));
    Check.due("s goes once", "|asse", () -> read("asses"));
    Check.due("the end of the twelve signs", "|abcdefghi abcdefghijk", () -> read("abcdefghiing abcdefghijks"));
    Check.due("what is behind twelve signs does not count", "|abcdefghijkl abcdefghijin",
        () -> read("abcdefghijkls abcdefghijing"));
    Check.due("digits do as letters", "|123 12345", () -> read("123s 12345ed"));
    Check.due("capital endings", "|dog bark str", () -> read("DOGS BARKED STRING"));
    Check.due("gs and eds", "|bark", () -> read("barkeds"));
  }

  private static void titles() {
    Check.due("title and body", "old dog|the dog bark", () -> read("Old Dogs|The dogs barked"));
    Check.due("no bar", "|old dog", () -> read("old dog"));
    Check.due("a bar first", "|old dog", () -> read("|old dog"));
    Check.due("a bar last", "old dog|", () -> read("old dog|"));
    Check.due("the first bar parts them", "a|b c d", () -> read("a|b|c||d"));
    Check.due("a bar inside a word", "do|gs", () -> read("do|gs"));
    Check.due("a bar alone", "|", () -> read("|"));
    Seekwell well = Check.wellOf("a b|c d e", "|", "x|", "y");
    Check.due("length of both", 5, () -> well.length(0));
    Check.due("length of none", 0, () -> well.length(1));
    Check.due("length of a title", 1, () -> well.length(2));
    Check.due("length of a body", 1, () -> well.length(3));
  }

  private static void revising() {
    Seekwell well = Check.wellOf("a|b", "c d", "e");
    Check.put(well, "x y|z dogs");
    Check.due("revise", 4, () -> well.revise(1));
    Check.due("revise takes the text", 0, well::erase);
    Check.due("its words", "x y|z dog", () -> words(well, 1));
    Check.due("its value stays", 1, () -> well.value(1));
    Check.due("its tag stays", 'b', () -> well.tag(1));
    Check.due("the others stay", "a|b", () -> words(well, 0));
    Check.due("as many texts", 3, well::texts);
    Check.due("revise with an empty text", 0, () -> well.revise(1));
    Check.due("no words", "|", () -> words(well, 1));
    Check.put(well, "left");
    Check.refused("revise 3", "NoSuchElementException", well, () -> well.revise(3));
    Check.refused("revise -1", "NoSuchElementException", well, () -> well.revise(-1));
    Check.refused("revise 24", "NoSuchElementException", well, () -> well.revise(24));
    well.drop(0);
    Check.refused("revise one that went", "NoSuchElementException", well, () -> well.revise(0));
    Check.due("the text is still there", 1, () -> well.revise(2));
    Check.due("and was read", "|left", () -> words(well, 2));
  }

  private static void dropping() {
    Seekwell well = Check.wellOf("a", "b", "c");
    Check.put(well, "kept");
    Check.due("drop", 2, () -> well.drop(1));
    Check.due("the text stays", "kept", () -> Check.text(well));
    Check.refused("drop again", "NoSuchElementException", well, () -> well.drop(1));
    Check.refused("drop 3", "NoSuchElementException", well, () -> well.drop(3));
    Check.refused("drop -1", "NoSuchElementException", well, () -> well.drop(-1));
    Check.refused("drop the greatest", "NoSuchElementException", well, () -> well.drop(Integer.MAX_VALUE));
    Check.due("texts", 2, well::texts);
    Check.due("isThere 0", true, () -> well.isThere(0));
    Check.due("isThere 1", false, () -> well.isThere(1));
    Check.due("isThere 2", true, () -> well.isThere(2));
    Check.due("isThere 3", false, () -> well.isThere(3));
    Check.due("isThere -1", false, () -> well.isThere(-1));
    Check.due("isThere 24", false, () -> well.isThere(24));
    Check.due("isThere least", false, () -> well.isThere(Integer.MIN_VALUE));
    Check.due("isThere greatest", false, () -> well.isThere(Integer.MAX_VALUE));
    Check.due("its number is not used again", 3, () -> well.add(5, 'q'));
    Check.due("the next one", 4, () -> well.add(5, 'q'));
    Check.due("drop more", 3, () -> well.drop(4));
    Check.due("drop more", 2, () -> well.drop(0));
    Check.due("drop more", 1, () -> well.drop(2));
    Check.due("drop the last one", 0, () -> well.drop(3));
    Check.due("none is left", 0, well::texts);
  }

  private static void telling() {
    Seekwell well = Check.wellOf("Old Dogs|barked abcdefghijkl");
    Check.put(well, "what was there, and is longer than the word");
    Check.due("tellWord of the title", "dog", () -> Check.told(well, () -> well.tellWord(0, true, 1)));
    Check.due("tellWord of the body", "bark", () -> Check.told(well, () -> well.tellWord(0, false, 0)));
    Check.due("twelve signs", "abcdefghijkl", () -> Check.told(well, () -> well.tellWord(0, false, 1)));
    Check.refused("title 2", "IndexOutOfBoundsException", well, () -> well.tellWord(0, true, 2));
    Check.refused("title -1", "IndexOutOfBoundsException", well, () -> well.tellWord(0, true, -1));
    Check.refused("body 2", "IndexOutOfBoundsException", well, () -> well.tellWord(0, false, 2));
    Check.refused("no text 1", "NoSuchElementException", well, () -> well.tellWord(1, false, 0));
    Check.refused("no text and no place", "NoSuchElementException", well, () -> well.tellWord(1, false, -1));
    Check.refused("length 1", "NoSuchElementException", well, () -> well.length(1));
    Check.refused("value 1", "NoSuchElementException", well, () -> well.value(1));
    Check.refused("tag 1", "NoSuchElementException", well, () -> well.tag(1));
    Check.refused("length -1", "NoSuchElementException", well, () -> well.length(-1));
    Check.refused("value -1", "NoSuchElementException", well, () -> well.value(-1));
    Check.refused("tag -1", "NoSuchElementException", well, () -> well.tag(-1));
    well.drop(0);
    Check.refused("a word of one that went", "NoSuchElementException", well, () -> well.tellWord(0, true, 0));
    Check.refused("the length of one that went", "NoSuchElementException", well, () -> well.length(0));
    Check.refused("the value of one that went", "NoSuchElementException", well, () -> well.value(0));
    Check.refused("the tag of one that went", "NoSuchElementException", well, () -> well.tag(0));
  }
}
