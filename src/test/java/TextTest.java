/** Promises 1 to 4: a new object, type, erase, signAt. */
public final class TextTest {
  public static void main(String[] args) {
    newObject();
    typing();
    erasing();
    signs();
    Check.end("TextTest");
  }

  private static void newObject() {
    Seekwell well = new Seekwell();
    Check.due("new: texts", 0, well::texts);
    Check.due("new: parts", 1, well::parts);
    Check.due("new: partSize", 0, () -> well.partSize(0));
    Check.due("new: words", 0, well::words);
    Check.due("new: the text", "", () -> Check.text(well));
    Check.due("new: erase", 0, well::erase);
    Check.due("new: byteAt", "throws.IndexOutOfBoundsException", () -> well.byteAt(0));
    Check.due("new: writtenAt", "throws.IndexOutOfBoundsException", () -> well.writtenAt(0));
    Check.due("new: reread", "throws.NoSuchElementException", well::reread);
    Check.due("new: simplify", "throws.IllegalStateException", well::simplify);
    Check.due("new: hits", "throws.IllegalStateException", well::hits);
    Check.due("new: checksum", 217L, well::checksum);
    Check.due("new: isSound", true, well::isSound);
    Check.due("new: isThere", false, () -> well.isThere(0));
  }

  private static void typing() {
    Seekwell well = new Seekwell();
    Check.due("type blank", 1, () -> well.type(' '));
    Check.due("type ~", 2, () -> well.type('~'));
    Check.due("type 31", "throws.IllegalArgumentException", () -> well.type((char) 31));
    Check.due("type 127", "throws.IllegalArgumentException", () -> well.type((char) 127));
    Check.due("type 0", "throws.IllegalArgumentException", () -> well.type((char) 0));
    Check.due("type 65535", "throws.IllegalArgumentException", () -> well.type((char) 65535));
    Check.due("the text keeps its signs", " ~", () -> Check.text(well));
    for (int i = 3; i <= 160; i++) {
      int size = i;
      Check.due("type " + i, size, () -> well.type('A'));
    }
    Check.due("type 161", "throws.IllegalStateException", () -> well.type('A'));
    Check.due("type a wrong sign at the end", "throws.IllegalArgumentException", () -> well.type('\n'));
    Check.due("the full text", " ~" + "A".repeat(158), () -> Check.text(well));
  }

  private static void erasing() {
    Seekwell well = new Seekwell();
    Check.put(well, "Old|Dogs");
    Check.due("erase", 8, well::erase);
    Check.due("erase again", 0, well::erase);
    Check.due("type behind erase", 1, () -> well.type('x'));
  }

  private static void signs() {
    Seekwell well = new Seekwell();
    Check.put(well, "aB~");
    Check.due("signAt 0", 'a', () -> well.signAt(0));
    Check.due("signAt 1", 'B', () -> well.signAt(1));
    Check.due("signAt 2", '~', () -> well.signAt(2));
    Check.due("signAt 3", "throws.IndexOutOfBoundsException", () -> well.signAt(3));
    Check.due("signAt -1", "throws.IndexOutOfBoundsException", () -> well.signAt(-1));
    Check.due("signAt least", "throws.IndexOutOfBoundsException", () -> well.signAt(Integer.MIN_VALUE));
    Check.due("signAt greatest", "throws.IndexOutOfBoundsException", () -> well.signAt(Integer.MAX_VALUE));
  }
}
