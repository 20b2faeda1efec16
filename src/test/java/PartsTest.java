import java.util.List;

/** Promises 20 to 25: parts, partSize, seal, join, packed, byteAt. */
public final class PartsTest {
  public static void main(String[] args) {
    sealing();
    joining();
    movingTexts();
    packing();
    packingParts();
    wrongPacking();
    Check.end("PartsTest");
  }

  private static String sizes(Seekwell well) {
    StringBuilder sizes = new StringBuilder();
    for (int part = 0; part < well.parts(); part++) {
      sizes.append(part > 0 ? " " : "").append(well.partSize(part));
    }
    return sizes.toString();
  }

  private static List<Integer> packed(Seekwell well, String word, int part) {
    Check.put(well, word);
    int size = well.packed(part);
    List<Integer> bytes = Check.bytes(well::byteAt);
    return size == bytes.size() ? bytes : List.of(-1, size);
  }

  private static void sealing() {
    Seekwell well = new Seekwell();
    Check.refused("seal of nothing", "UnsupportedOperationException", well, well::seal);
    Check.due("one part", 1, well::parts);
    Check.put(well, "kept");
    for (int part = 0; part < 7; part++) {
      Check.add(well, "a", part, 'a');
      Check.put(well, "kept");
      int parts = part + 2;
      Check.due("seal " + part, parts, well::seal);
      Check.due("the text stays", "kept", () -> Check.text(well));
      Check.due("parts " + part, parts, well::parts);
      Check.refused("seal again", "UnsupportedOperationException", well, well::seal);
    }
    Check.due("sizes", "1 1 1 1 1 1 1 0", () -> sizes(well));
    Check.add(well, "a", 7, 'a');
    Check.refused("seal of eight", "IllegalStateException", well, well::seal);
    well.drop(7);
    Check.refused("seal of eight, the last one empty", "UnsupportedOperationException", well, well::seal);
    Check.refused("partSize -1", "IndexOutOfBoundsException", well, () -> well.partSize(-1));
    Check.refused("partSize 8", "IndexOutOfBoundsException", well, () -> well.partSize(8));
    Check.refused("partSize least", "IndexOutOfBoundsException", well, () -> well.partSize(Integer.MIN_VALUE));
    Check.due("join makes room", 1, () -> well.join(6));
    Check.due("and seal takes it", 8, well::seal);
  }

  private static void joining() {
    Seekwell well = Check.wellOf("a", "b");
    well.seal();
    Check.add(well, "c", 2, 'c');
    well.seal();
    Check.add(well, "d", 3, 'd');
    well.seal();
    Check.due("sizes", "2 1 1 0", () -> sizes(well));
    Check.put(well, "kept");
    Check.refused("join of the newest", "IndexOutOfBoundsException", well, () -> well.join(3));
    Check.refused("join -1", "IndexOutOfBoundsException", well, () -> well.join(-1));
    Check.refused("join 4", "IndexOutOfBoundsException", well, () -> well.join(4));
    Check.refused("join greatest", "IndexOutOfBoundsException", well, () -> well.join(Integer.MAX_VALUE));
    Check.due("join 1", 2, () -> well.join(1));
    Check.due("in their place", "2 2 0", () -> sizes(well));
    Check.due("parts", 3, well::parts);
    Check.due("the text stays", "kept", () -> Check.text(well));
    Check.due("join with an empty one", 2, () -> well.join(1));
    Check.due("the newest one", "2 2", () -> sizes(well));
    Check.add(well, "e", 4, 'e');
    Check.due("a text comes to it", "2 3", () -> sizes(well));
    Check.due("join 0", 5, () -> well.join(0));
    Check.due("one is left", "5", () -> sizes(well));
    Check.refused("join of the only one", "IndexOutOfBoundsException", well, () -> well.join(0));
    Check.refused("partSize 1", "IndexOutOfBoundsException", well, () -> well.partSize(1));
  }

  private static void movingTexts() {
    Seekwell well = Check.wellOf("a", "b", "c");
    well.seal();
    Check.due("an empty part", "3 0", () -> sizes(well));
    well.revise(1);
    Check.due("a revised one comes to the newest", "2 1", () -> sizes(well));
    well.drop(0);
    Check.due("one that goes leaves its part", "1 1", () -> sizes(well));
    well.seal();
    well.drop(1);
    Check.due("a part in the middle is empty", "1 0 0", () -> sizes(well));
    well.revise(2);
    Check.due("the first one is empty", "0 0 1", () -> sizes(well));
    well.revise(2);
    Check.due("revised in the newest", "0 0 1", () -> sizes(well));
    Check.due("join of two empty ones", 0, () -> well.join(0));
    Check.due("two are left", "0 1", () -> sizes(well));
    Check.put(well, "x");
    well.add(1, 'a');
    Check.due("a new one", "0 2", () -> sizes(well));
  }

  private static void packing() {
    Seekwell well = Check.wellOf("Old Dogs|The dogs barked", "cat", "dog cat dog|dog", "dog|", "|x dog dog x x dog");
    Check.due("dog", List.of(0, 1, 1, 1, 1, 2, 2, 0, 2, 1, 0, 1, 1, 0, 0, 1, 0, 3, 1, 1, 3),
        () -> packed(well, "dog", 0));
    Check.due("it takes the text", 0, well::erase);
    Check.due("the row is told on", 21, () -> Check.bytes(well::byteAt).size());
    Check.due("DOGS, shortened", List.of(0, 1, 1, 1, 1, 2, 2, 0, 2, 1, 0, 1, 1, 0, 0, 1, 0, 3, 1, 1, 3),
        () -> packed(well, "DOGS", 0));
    Check.due("cat", List.of(1, 0, 1, 0, 1, 1, 1, 0), () -> packed(well, "cat", 0));
    Check.due("x", List.of(4, 0, 3, 0, 3, 1), () -> packed(well, "x", 0));
    Check.due("byteAt 5", 1, () -> well.byteAt(5));
    Check.refused("byteAt 6", "IndexOutOfBoundsException", well, () -> well.byteAt(6));
    Check.refused("byteAt -1", "IndexOutOfBoundsException", well, () -> well.byteAt(-1));
    well.drop(4);
    Check.due("the row that is told stays", List.of(4, 0, 3, 0, 3, 1), () -> Check.bytes(well::byteAt));
    Check.due("no such word", List.of(), () -> packed(well, "x", 0));
    Check.refused("byteAt 0 of none", "IndexOutOfBoundsException", well, () -> well.byteAt(0));
    well.drop(0);
    Check.due("the first one's number itself", List.of(2, 2, 0, 2, 1, 0, 1, 1, 0, 0), () -> packed(well, "dog", 0));
    Seekwell late = new Seekwell();
    for (int i = 0; i < 24; i++) {
      Check.add(late, i == 23 || i == 5 ? "b" : "a", 0, 'a');
    }
    Check.due("less that of the one ahead", List.of(5, 0, 1, 0, 18, 0, 1, 0), () -> packed(late, "b", 0));
    Seekwell wide = Check.wellOf("a ".repeat(79) + "b");
    Check.due("a place far behind", List.of(0, 0, 1, 79), () -> packed(wide, "b", 0));
    Check.due("many places", 2 + 1 + 79, () -> packed(wide, "a", 0).size());
  }

  private static void packingParts() {
    Seekwell well = Check.wellOf("a b", "b");
    well.seal();
    Check.add(well, "b a", 0, 'a');
    well.seal();
    Check.due("of the first part", List.of(0, 0, 1, 0), () -> packed(well, "a", 0));
    Check.due("of the second part", List.of(2, 0, 1, 1), () -> packed(well, "a", 1));
    Check.due("of the empty part", List.of(), () -> packed(well, "a", 2));
    Check.put(well, "a a");
    well.revise(0);
    Check.due("it left the first part", List.of(), () -> packed(well, "a", 0));
    Check.due("it is in the newest", List.of(0, 0, 2, 0, 1), () -> packed(well, "a", 2));
    well.join(1);
    Check.due("joined, that of all its texts", List.of(0, 0, 2, 0, 1, 2, 0, 1, 1), () -> packed(well, "a", 1));
    well.join(0);
    Check.due("all joined", List.of(1, 0, 1, 0, 1, 0, 1, 0), () -> packed(well, "b", 0));
    Check.due("isSound", true, well::isSound);
  }

  private static void wrongPacking() {
    Seekwell well = Check.wellOf("dog");
    Check.due("dog", 4, () -> packed(well, "dog", 0).size());
    for (String wrong : new String[] {"", "dog ", " dog", "a b", "dog*", "|"}) {
      Check.put(well, wrong);
      Check.refused("packed '" + wrong + "'", "IllegalArgumentException", well, () -> well.packed(0));
      Check.refused("no part, and '" + wrong + "'", "IndexOutOfBoundsException", well, () -> well.packed(1));
      Check.due("the text stays '" + wrong + "'", wrong, () -> Check.text(well));
    }
    Check.put(well, "dog");
    Check.refused("packed 1", "IndexOutOfBoundsException", well, () -> well.packed(1));
    Check.refused("packed -1", "IndexOutOfBoundsException", well, () -> well.packed(-1));
    Check.due("the row of before is told on", List.of(0, 0, 1, 0), () -> Check.bytes(well::byteAt));
    Check.due("and the text is still there", 4, () -> well.packed(0));
  }
}
