import java.util.ArrayList;
import java.util.List;

/** Promises 40 to 45: likeness, write, writtenAt, reread, checksum, isSound. */
public final class WholeTest {
  public static void main(String[] args) {
    likeness();
    writing();
    writingNumbers();
    rereading();
    rereadingNone();
    rereadingOften();
    checksums();
    soundness();
    Check.end("WholeTest");
  }

  private static void alike(String one, String other, Object want) {
    Seekwell well = Check.wellOf(one, other);
    Check.put(well, "kept");
    String named = "'" + one + "' and '" + other + "'";
    Check.due(named, want, () -> well.likeness(0, 1));
    Check.due(named + " the other way round", want, () -> well.likeness(1, 0));
    Check.due("the text stays", "kept", () -> Check.text(well));
  }

  private static void likeness() {
    alike("a b c", "b c d", 333);
    alike("a b", "a b", 1000);
    alike("a b", "b a", 0);
    alike("a b a b a b", "a b", 500);
    alike("a b c d", "a b c x", 500);
    alike("a b c d", "a b x c d", 400);
    alike("a b c d e f g", "a b x x c y", 100);
    alike("a b c d e f", "a b x", 166);
    alike("a b c", "a b c d", 666);
    alike("a", "a b", 0);
    alike("a a a", "a a", 1000);
    alike("a b|c d", "x y|c d", 1000);
    alike("a b|c", "a b|d", "throws.ArithmeticException");
    alike("a", "b", "throws.ArithmeticException");
    alike("", "", "throws.ArithmeticException");
    alike("Dogs barked", "dog barking", 1000);
    alike("a b c d", "b c", 333);
    alike("a b c d b c", "b c", 250);
    Seekwell well = Check.wellOf("a b c", "x", "a b");
    Check.due("one and itself", 1000, () -> well.likeness(0, 0));
    Check.refused("one and itself without a pair", "ArithmeticException", well, () -> well.likeness(1, 1));
    Check.refused("no first text", "NoSuchElementException", well, () -> well.likeness(3, 0));
    Check.refused("no second text", "NoSuchElementException", well, () -> well.likeness(0, -1));
    Check.refused("no second text, and no pair", "NoSuchElementException", well, () -> well.likeness(1, 3));
    well.drop(2);
    Check.refused("one that went", "NoSuchElementException", well, () -> well.likeness(0, 2));
    Check.refused("one that went first", "NoSuchElementException", well, () -> well.likeness(2, 0));
  }

  private static void writing() {
    Seekwell well = new Seekwell();
    Check.due("write of nothing", 0, well::write);
    Check.refused("writtenAt 0 of nothing", "IndexOutOfBoundsException", well, () -> well.writtenAt(0));
    Check.add(well, "Old|dogs 7 up", 5, 'a');
    Check.add(well, "", 0, 'c');
    Check.add(well, "x|", 1, 'z');
    well.drop(1);
    Check.put(well, "kept");
    List<Integer> want = List.of(0, 5, 0, 1, 3, (int) 'o', (int) 'l', (int) 'd', 3, 3, (int) 'd', (int) 'o',
        (int) 'g', 1, (int) '7', 2, (int) 'u', (int) 'p', 2, 1, 25, 1, 1, (int) 'x', 0);
    Check.due("write", want.size(), well::write);
    Check.due("what was written", want, () -> Check.bytes(well::writtenAt));
    Check.due("the text stays", "kept", () -> Check.text(well));
    Check.refused("writtenAt behind it", "IndexOutOfBoundsException", well, () -> well.writtenAt(want.size()));
    Check.refused("writtenAt -1", "IndexOutOfBoundsException", well, () -> well.writtenAt(-1));
    well.drop(0);
    Check.put(well, "y");
    well.revise(2);
    Check.due("it stays as it was written", want, () -> Check.bytes(well::writtenAt));
    List<Integer> then = List.of(2, 1, 25, 0, 1, 1, (int) 'y');
    Check.due("written last", then.size(), well::write);
    Check.due("what was written last", then, () -> Check.bytes(well::writtenAt));
    Check.put(well, "y");
    well.packed(0);
    Check.due("the packed row is another one", List.of(2, 0, 1, 0), () -> Check.bytes(well::byteAt));
    Check.due("what was written stays", then, () -> Check.bytes(well::writtenAt));
  }

  private static void writingNumbers() {
    int[][] values = {{0, 0}, {127, 127}, {128, 128, 1}, {129, 129, 1}, {255, 255, 1}, {256, 128, 2}, {999, 231, 7}};
    Seekwell well = new Seekwell();
    List<Integer> want = new ArrayList<>();
    for (int i = 0; i < values.length; i++) {
      well.add(values[i][0], 'b');
      want.add(i);
      for (int k = 1; k < values[i].length; k++) {
        want.add(values[i][k]);
      }
      want.addAll(List.of(1, 0, 0));
    }
    Check.due("write", want.size(), well::write);
    Check.due("values in bytes", want, () -> Check.bytes(well::writtenAt));
    for (int i = 0; i < values.length; i++) {
      well.drop(i);
    }
    Check.due("reread", values.length, well::reread);
    for (int i = 0; i < values.length; i++) {
      int number = i;
      Check.due("value " + i, values[i][0], () -> well.value(number));
    }
  }

  private static void rereading() {
    Seekwell well = Check.wellOf("Old Dogs|The dogs barked", "cat 7 abcdefghijklmno");
    well.seal();
    Check.add(well, "x|y", 999, 'z');
    Check.ask(well, "dog|x");
    well.save(1);
    well.write();
    well.drop(0);
    Check.put(well, "other");
    well.revise(2);
    Check.add(well, "more", 3, 'd');
    well.seal();
    Check.put(well, "kept");
    Check.due("reread", 3, well::reread);
    Check.due("the text stays", 4, well::erase);
    Check.due("texts", 3, well::texts);
    Check.due("the only part", 1, well::parts);
    Check.due("all in one", 3, () -> well.partSize(0));
    Check.due("one that went is there", true, () -> well.isThere(0));
    Check.due("one that came is not", false, () -> well.isThere(3));
    Check.due("its title", "dog", () -> Check.told(well, () -> well.tellWord(0, true, 1)));
    Check.due("its body", "bark", () -> Check.told(well, () -> well.tellWord(0, false, 2)));
    Check.due("its length", 5, () -> well.length(0));
    Check.due("a long word", "abcdefghijkl", () -> Check.told(well, () -> well.tellWord(1, false, 2)));
    Check.due("a value", 999, () -> well.value(2));
    Check.due("a tag", 'z', () -> well.tag(2));
    Check.due("that of the other one", 'b', () -> well.tag(1));
    Check.due("what is asked stays", 2, well::hits);
    Check.due("what is saved stays", 2, () -> well.news(2));
    well.erase();
    Check.due("numbers go on as they would", 4, () -> well.add(1, 'a'));
    Check.due("in the only part", 4, () -> well.partSize(0));
    Check.due("reread again", 3, well::reread);
  }

  private static void rereadingNone() {
    Seekwell well = Check.wellOf("a");
    Check.put(well, "kept");
    Check.refused("nothing was written", "NoSuchElementException", well, well::reread);
    Seekwell empty = new Seekwell();
    empty.write();
    Check.add(empty, "a", 0, 'a');
    empty.seal();
    Check.due("reread of none", 0, empty::reread);
    Check.due("no texts", 0, empty::texts);
    Check.due("the text went", false, () -> empty.isThere(0));
    Check.due("one part", 1, empty::parts);
    Check.due("without texts", 0, () -> empty.partSize(0));
    Check.due("the next number", 1, () -> empty.add(0, 'a'));
    Check.due("isSound", true, empty::isSound);
  }

  private static void rereadingOften() {
    Seekwell well = new Seekwell();
    for (int i = 0; i < 24; i++) {
      Check.add(well, "w" + i + "|x", i, 'a');
    }
    well.write();
    for (int i = 0; i < 24; i += 2) {
      well.drop(i);
    }
    Check.due("half of them", 12, well::texts);
    Check.due("all again", 24, well::reread);
    Check.refused("24 came all the same", "IllegalStateException", well, () -> well.add(0, 'a'));
    Check.due("a revised one", 1, () -> {
      Check.put(well, "z");
      return well.revise(5);
    });
    well.reread();
    Check.due("is as it was", "w5", () -> Check.told(well, () -> well.tellWord(5, true, 0)));
    Check.due("isSound", true, well::isSound);
  }

  private static long sum(int... numbers) {
    long sum = 7;
    for (int number : numbers) {
      sum = 31 * sum + number;
    }
    return sum;
  }

  private static void checksums() {
    Seekwell well = new Seekwell();
    Check.due("nothing", sum(0), well::checksum);
    Check.put(well, "a~");
    Check.due("a text", sum(0, 'a', '~'), well::checksum);
    Check.put(well, "Ox|dogs A1");
    well.add(7, 'c');
    Check.due("one", sum(0, 7, 'c', 1, 'o', 'x', 2, 'd', 'o', 'g', 'a', '1', 1), well::checksum);
    well.seal();
    Check.due("two parts", sum(0, 7, 'c', 1, 'o', 'x', 2, 'd', 'o', 'g', 'a', '1', 1, 0), well::checksum);
    Check.add(well, "", 999, 'a');
    Check.add(well, "z", 0, 'z');
    well.drop(0);
    Check.put(well, "!");
    Check.due("two", sum(1, 999, 'a', 0, 0, 2, 0, 'z', 0, 1, 'z', 0, 2, '!'), well::checksum);
    Check.put(well, "y|");
    well.revise(1);
    Check.due("revised", sum(1, 999, 'a', 1, 'y', 0, 2, 0, 'z', 0, 1, 'z', 0, 2), well::checksum);
    well.write();
    well.reread();
    Check.due("reread", sum(1, 999, 'a', 1, 'y', 0, 2, 0, 'z', 0, 1, 'z', 2), well::checksum);
    Seekwell long1 = Check.wellOf("zzzzzzzzzzzz ".repeat(12));
    long want = sum(0, 0, 'a', 0, 12);
    for (int i = 0; i < 144; i++) {
      want = 31 * want + 'z';
    }
    Check.due("it goes round", 31 * want + 1, long1::checksum);
  }

  private static void soundness() {
    Seekwell well = new Seekwell();
    Check.due("nothing", true, well::isSound);
    for (int i = 0; i < 24; i++) {
      Check.add(well, (i % 3 == 0 ? "dog|" : "") + "a b c dog cat ".repeat(i % 4) + "w" + i, i, 'q');
      if (i % 4 == 3) {
        well.seal();
      }
    }
    Check.due("many texts in many parts", true, well::isSound);
    well.drop(3);
    Check.put(well, "a a|b b");
    well.revise(6);
    well.join(1);
    String[] questions = {"a", "!(a|b)&w*", "dgo~^3|!(\"a b\"&{2 c cat})^2", "[3-20]&<dog", "a&!a", "(a|b)&(b|a)|c"};
    for (String question : questions) {
      Check.ask(well, question);
      Check.put(well, "kept");
      String before = Check.state(well);
      Check.due("isSound with " + question, true, well::isSound);
      Check.due("it changes nothing", before, () -> Check.state(well));
      Check.due("what is asked stays", question, () -> Check.told(well, well::tellQuestion));
      well.simplify();
      Check.due("isSound, made simpler", true, well::isSound);
    }
  }
}
