import java.math.BigInteger;
import java.util.ArrayList;
import java.util.List;

/** The boundary cases of promises 40 to 45: none, one, all, the least, the greatest, the first beyond, the refused. */
public final class BoundaryWholeTest {
  private static final String ARITHMETIC = "ArithmeticException";
  private static final String INDEX = "IndexOutOfBoundsException";
  private static final String NONE = "NoSuchElementException";
  private static final String STATE = "IllegalStateException";

  private BoundaryWholeTest() {
  }

  public static void main(String[] args) {
    likeness();
    likenessOfNone();
    bytesOfNumbers();
    placesOfBytes();
    writtenLast();
    rereadNothing();
    rereadNone();
    rereadParts();
    rereadNumbers();
    rereadAll();
    checksums();
    checksumsThatGoRound();
    soundEmptyAndFull();
    soundBehindChanges();
    Check.end("BoundaryWholeTest");
  }

  // ---- 40: "for either", "if none of them has such a pair", "cut"

  private static void alike(String one, String other, Object want) {
    Seekwell well = Check.wellOf(one, other);
    Check.put(well, "kept");
    Check.due("'" + one + "' like '" + other + "'", want, () -> well.likeness(0, 1));
    Check.due("and the other way round", want, () -> well.likeness(1, 0));
    Check.due("the text stays", "kept", () -> Check.text(well));
  }

  private static void likeness() {
    alike("a b", "a b", 1000);
    alike("a b", "b a", 0);
    alike("a b", "", 0);
    alike("a b", "a", 0);
    alike("a b", "a b c", 500);
    alike("a b c", "a b d", 333);
    alike("a b c d", "x b c d", 500);
    alike("a b c", "a b c d", 666);
    alike("a ".repeat(80), "a a", 1000);
    alike("a b ".repeat(40), "a b a", 1000);
    alike("x y|a b", "z|a b", 1000);
    alike("a b|c d", "a b|d c", 0);
    StringBuilder all = new StringBuilder();
    for (int i = 0; i < 52; i++) {
      all.append((char) ('a' + i % 26)).append(i / 26).append(' ');
    }
    alike(all.toString(), "a0 b0", 19);
    alike(all.toString(), "y1 z1", 19);
    alike(all.toString(), all.toString(), 1000);
  }

  private static void likenessOfNone() {
    String[] texts = {"", "a", "a b|", "a b|c", "|a", "a|", "..", "a|b"};
    for (String one : texts) {
      for (String other : texts) {
        alike(one, other, "throws." + ARITHMETIC);
      }
    }
    Seekwell well = Check.wellOf("a", "b", "a b", "a b");
    Check.refused("no pairs", ARITHMETIC, well, () -> well.likeness(0, 1));
    Check.refused("no pairs of one alone", ARITHMETIC, well, () -> well.likeness(0, 0));
    Check.due("pairs of one alone", 1000, () -> well.likeness(2, 2));
    Check.due("pairs of one of two", 0, () -> well.likeness(0, 2));
    well.drop(3);
    for (int number : new int[] {3, 4, 23, 24, -1, Integer.MIN_VALUE, Integer.MAX_VALUE}) {
      Check.refused("the first one is not, " + number, NONE, well, () -> well.likeness(number, 2));
      Check.refused("the second one is not, " + number, NONE, well, () -> well.likeness(2, number));
      Check.refused("the first one is not, no pairs, " + number, NONE, well, () -> well.likeness(number, 0));
      Check.refused("the second one is not, no pairs, " + number, NONE, well, () -> well.likeness(0, number));
    }
  }

  // ---- 41: "as many bytes as it needs: the lowest 7 bits first, each byte but the last one 128 more"

  private static void bytesOfNumbers() {
    for (int value = 0; value <= 999; value++) {
      Seekwell well = new Seekwell();
      well.add(value, 'a');
      List<Integer> want = new ArrayList<>(List.of(0));
      if (value >= 128) {
        want.add(value % 128 + 128);
      }
      want.add(value >= 128 ? value / 128 : value);
      want.addAll(List.of(0, 0, 0));
      Check.due("write with the value " + value, want.size(), well::write);
      Check.due("its bytes " + value, want, () -> Check.bytes(well::writtenAt));
      well.drop(0);
      well.reread();
      Check.due("read anew, the value " + value, value, () -> well.value(0));
    }
    for (char tag = 'a'; tag <= 'z'; tag++) {
      Seekwell well = new Seekwell();
      char each = tag;
      well.add(0, tag);
      well.write();
      Check.due("the tag " + tag, tag - 'a', () -> well.writtenAt(2));
      well.drop(0);
      well.reread();
      Check.due("read anew, the tag " + tag, each, () -> well.tag(0));
    }
  }

  // ---- 42: "if there is no such byte"

  private static void placesOfBytes() {
    Seekwell well = new Seekwell();
    int[] never = {-1, Integer.MIN_VALUE, Integer.MAX_VALUE};
    Check.refused("writtenAt 0, nothing was written", INDEX, well, () -> well.writtenAt(0));
    Check.due("write of none", 0, well::write);
    Check.refused("writtenAt 0 of none", INDEX, well, () -> well.writtenAt(0));
    Check.add(well, "z", 999, 'z');
    Check.refused("it was not written yet", INDEX, well, () -> well.writtenAt(0));
    Check.due("write of one", 8, well::write);
    Check.due("the bytes", List.of(0, 231, 7, 25, 0, 1, 1, (int) 'z'), () -> Check.bytes(well::writtenAt));
    Check.due("the first byte", 0, () -> well.writtenAt(0));
    Check.due("the last byte", (int) 'z', () -> well.writtenAt(7));
    Check.refused("behind the last byte", INDEX, well, () -> well.writtenAt(8));
    for (int index : never) {
      Check.refused("writtenAt " + index, INDEX, well, () -> well.writtenAt(index));
    }
  }

  // ---- 42 and 43: "what was written last"

  private static void writtenLast() {
    Seekwell well = Check.wellOf("a", "b");
    well.write();
    List<Integer> two = List.of(0, 0, 0, 0, 1, 1, (int) 'a', 1, 1, 1, 0, 1, 1, (int) 'b');
    well.drop(0);
    Check.put(well, "c");
    well.revise(1);
    Check.due("it stays, whatever the texts do", two, () -> Check.bytes(well::writtenAt));
    well.reread();
    Check.due("and behind reread", two, () -> Check.bytes(well::writtenAt));
    well.drop(0);
    List<Integer> one = List.of(1, 1, 1, 0, 1, 1, (int) 'b');
    Check.due("write anew", one.size(), well::write);
    Check.due("that is the last then", one, () -> Check.bytes(well::writtenAt));
    well.drop(1);
    Check.due("reread tells of the last", 1, well::reread);
    Check.due("not of the one ahead", "false true", () -> well.isThere(0) + " " + well.isThere(1));
    well.drop(1);
    Check.due("write of none", 0, well::write);
    Check.refused("nothing is left of the one ahead", INDEX, well, () -> well.writtenAt(0));
  }

  // ---- 43: "if nothing was written", "also if these were none", "all in one part, the only one; numbers go on"

  private static void rereadNothing() {
    Seekwell well = Check.wellOf("a", "b");
    well.seal();
    Check.put(well, "a");
    well.packed(0);
    Check.ask(well, "a");
    well.save(0);
    Check.put(well, "kept");
    Check.refused("reread, nothing was written", NONE, well, well::reread);
    Check.refused("and again", NONE, well, well::reread);
    Check.due("the texts are still there", 2, well::texts);
  }

  private static void rereadNone() {
    Seekwell well = new Seekwell();
    well.write();
    Check.due("reread of none into none", 0, well::reread);
    Check.add(well, "a", 0, 'a');
    well.seal();
    Check.add(well, "b", 0, 'a');
    Check.put(well, "kept");
    Check.due("reread of none", 0, well::reread);
    Check.due("no texts", 0, well::texts);
    Check.due("no words", 0, well::words);
    Check.due("one part", 1, well::parts);
    Check.due("it is empty", 0, () -> well.partSize(0));
    Check.refused("and cannot be sealed", "UnsupportedOperationException", well, well::seal);
    Check.refused("text 0 went", NONE, well, () -> well.revise(0));
    Check.due("the text stays", "kept", () -> Check.text(well));
    Check.due("numbers go on", 2, () -> well.add(0, 'a'));
    Check.due("and again none", 0, well::reread);
    Check.due("numbers go on still", 3, () -> well.add(0, 'a'));
  }

  private static void rereadParts() {
    Seekwell well = new Seekwell();
    for (int part = 0; part < 8; part++) {
      well.add(part, 'a');
      if (part < 7) {
        well.seal();
      }
    }
    well.write();
    Check.due("reread of 8 parts", 8, well::reread);
    Check.due("one is left", 1, well::parts);
    Check.due("it has all", 8, () -> well.partSize(0));
    Check.refused("there is no other one", INDEX, well, () -> well.partSize(1));
    Check.refused("none is behind it", INDEX, well, () -> well.join(0));
    Check.due("seal", 2, well::seal);
    Check.due("reread of one part into two", 8, well::reread);
    Check.due("one is left again", 1, well::parts);
    Check.put(well, "a");
    well.revise(0);
    Check.due("all are in it", 8, () -> well.partSize(0));
  }

  private static void rereadNumbers() {
    Seekwell well = Check.wellOf("a", "b", "c");
    well.drop(2);
    well.write();
    well.drop(0);
    Check.due("one that went comes back", 2, well::reread);
    Check.due("one that had gone does not", "true true false",
        () -> well.isThere(0) + " " + well.isThere(1) + " " + well.isThere(2));
    Check.due("nor is its number used", 3, () -> well.add(9, 'z'));
    Check.due("one that came behind it goes", 2, well::reread);
    Check.due("it went", false, () -> well.isThere(3));
    Check.due("nor is that number used", 4, () -> well.add(9, 'z'));
    for (int number = 5; number < 24; number++) {
      well.add(0, 'a');
    }
    Check.due("24 came", 22, well::texts);
    Check.due("reread when 24 came", 2, well::reread);
    Check.refused("24 came still", STATE, well, () -> well.add(0, 'a'));
    Check.due("a text of before", "a", () -> Check.told(well, () -> well.tellWord(0, false, 0)));
  }

  private static void rereadAll() {
    Seekwell well = new Seekwell();
    for (int i = 0; i < 24; i++) {
      String text = i % 2 == 0 ? "a".repeat(160) : "t ".repeat(40) + "|" + "b ".repeat(39);
      Check.add(well, text, 999 - i, (char) ('z' - i));
    }
    well.erase();
    long due = well.checksum();
    Check.due("how many bytes", 12 * (4 + 1 + 1 + 1 + 12) + 12 * (4 + 1 + 2 * 40 + 1 + 2 * 39), well::write);
    for (int i = 0; i < 24; i++) {
      well.drop(i);
    }
    Check.due("reread of 24", 24, well::reread);
    Check.due("all are as they were", due, well::checksum);
    Check.due("reread of 24 into 24", 24, well::reread);
    Check.due("all are as they were still", due, well::checksum);
    Check.due("isSound", true, well::isSound);
  }

  // ---- 44: "Returns 7 at first, then for each text ... then for each part likewise how many texts it has; then for
  // each sign of the text its code", "a long that goes round"

  /** The sum of these numbers, as a long that goes round. */
  private static long sum(List<Integer> numbers) {
    BigInteger sum = BigInteger.valueOf(7);
    for (int number : numbers) {
      sum = sum.multiply(BigInteger.valueOf(31)).add(BigInteger.valueOf(number));
    }
    return sum.longValue();
  }

  private static void checksums() {
    Seekwell well = new Seekwell();
    Check.due("of none", sum(List.of(0)), well::checksum);
    well.type('~');
    Check.due("of a sign", sum(List.of(0, 126)), well::checksum);
    well.erase();
    well.add(999, 'z');
    Check.due("of a text without words", sum(List.of(0, 999, 'z' + 0, 0, 0, 1)), well::checksum);
    Check.put(well, "b|a a9");
    well.revise(0);
    Check.due("of a text", sum(List.of(0, 999, 'z' + 0, 1, 'b' + 0, 2, 'a' + 0, 'a' + 0, '9' + 0, 1)), well::checksum);
    well.seal();
    Check.due("of two parts", sum(List.of(0, 999, 'z' + 0, 1, 'b' + 0, 2, 'a' + 0, 'a' + 0, '9' + 0, 1, 0)),
        well::checksum);
    well.add(0, 'a');
    well.drop(0);
    Check.due("of the number 1 alone", sum(List.of(1, 0, 'a' + 0, 0, 0, 0, 1)), well::checksum);
    well.drop(1);
    Check.due("of two empty parts", sum(List.of(0, 0)), well::checksum);
    well.join(0);
    Check.due("of one", sum(List.of(0)), well::checksum);
  }

  private static void checksumsThatGoRound() {
    Seekwell well = new Seekwell();
    List<Integer> numbers = new ArrayList<>(List.of(0));
    for (int i = 0; i < 160; i++) {
      well.type((char) (126 - i % 90));
      numbers.add(126 - i % 90);
      Check.due("of " + (i + 1) + " signs", sum(numbers), well::checksum);
    }
    Check.due("nothing but the sum is taken", 160, well::erase);
    List<Integer> all = new ArrayList<>();
    for (int i = 0; i < 24; i++) {
      Check.add(well, "zz|y 0", 999 - i, (char) ('z' - i));
      all.addAll(List.of(i, 999 - i, 'z' - i, 1, 'z' + 0, 'z' + 0, 2, 'y' + 0, '0' + 0));
      if (i % 3 == 2 && i < 23) {
        well.seal();
      }
    }
    all.addAll(List.of(3, 3, 3, 3, 3, 3, 3, 3));
    Check.due("of 24 texts in 8 parts", sum(all), well::checksum);
  }

  // ---- 45: for what there is, also if it is nothing, and if it is all

  private static void soundEmptyAndFull() {
    Seekwell well = new Seekwell();
    Check.due("of nothing", true, well::isSound);
    Check.ask(well, "!a");
    Check.due("of a question alone", true, well::isSound);
    for (int i = 0; i < 24; i++) {
      Check.add(well, "a".repeat(1 + i % 3) + " b|" + "a b ".repeat(1 + i), i * 41, (char) ('a' + i));
      if (i % 3 == 2 && i < 23) {
        well.seal();
      }
    }
    String[] questions = {"a|b^9", "!(a&b)|c", "aa*&b~&{1 a b}", "\"a b a\"|<aa", "[0-500]&!aaa", "a&!a",
        "!(!(!(a^2)^3))", "(a|b)&(b|a)|(a&b|b&a)", "a|".repeat(79) + "b"};
    Check.put(well, "kept");
    for (String question : questions) {
      Check.due("of a question, " + question, true, () -> Check.ask(well, question) > 0 && well.isSound());
      String before = Check.state(well);
      well.isSound();
      Check.due("it changes nothing, " + question, before, () -> Check.state(well));
    }
    while (well.parts() > 1) {
      well.join(0);
      Check.due("of parts that are joined", true, well::isSound);
    }
    for (int i = 0; i < 24; i++) {
      well.drop(i);
      Check.due("of one less", true, well::isSound);
    }
    Check.refused("24 came", STATE, well, () -> well.add(0, 'a'));
  }

  private static void soundBehindChanges() {
    Seekwell well = new Seekwell();
    Check.ask(well, "a|<b|\"c d\"");
    String[] texts = {"a b|c d", "a|c", "|", "", "b b b|c d c d", "x|a", "d c b a", "b a|"};
    for (String text : texts) {
      Check.add(well, text, 0, 'a');
      Check.due("a text that comes, '" + text + "'", true, well::isSound);
    }
    for (int i = 0; i < 64; i++) {
      Check.put(well, texts[i % 8]);
      well.revise(i / 8);
      Check.due("text " + i / 8 + " revised to '" + texts[i % 8] + "'", true, well::isSound);
    }
  }
}
