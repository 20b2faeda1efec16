import java.math.BigInteger;

/** Promises 31 to 33: hitAt, top, tellWorth. */
public final class WorthTest {
  public static void main(String[] args) {
    worths();
    nots();
    weights();
    unlikeUnits();
    order();
    ties();
    nearlyTies();
    nearlyTiesOfFractions();
    firstOnes();
    wrongCalls();
    Check.end("WorthTest");
  }

  private static void worth(Seekwell well, String question, int number, String want) {
    Check.ask(well, question);
    Check.put(well, "what was there");
    Check.due(question + " of text " + number, want, () -> Check.told(well, () -> well.tellWorth(number)));
  }

  private static String order(Seekwell well, String question) {
    if (Check.ask(well, question) < 0) {
      return "a fault";
    }
    StringBuilder all = new StringBuilder();
    for (int rank = 0; rank < well.hits(); rank++) {
      all.append(rank > 0 ? " " : "").append(well.hitAt(rank));
    }
    return all.toString();
  }

  /** Three texts of three words, two and one; so 4 goes into each worth. */
  private static Seekwell three() {
    return Check.wellOf("dog|dog cat", "cat cat", "x");
  }

  private static void worths() {
    Seekwell well = three();
    worth(well, "dog", 0, "2/1");
    worth(well, "dog", 1, "0/1");
    worth(well, "cat", 0, "1/3");
    worth(well, "cat", 1, "8/9");
    worth(well, "cat", 2, "0/1");
    worth(well, "<dog", 0, "3/2");
    worth(well, ">dog", 0, "1/2");
    worth(well, "dog|dog", 0, "4/1");
    worth(well, "dog&cat", 0, "7/3");
    worth(well, "dog&cat", 1, "8/9");
    worth(well, "<cat|dog", 0, "2/1");
    worth(well, "y", 0, "0/1");
    worth(well, "x", 2, "1/1");
    worth(Check.wellOf("a a a a"), "a", 0, "4/5");
    worth(Check.wellOf("a|"), "a", 0, "3/2");
    worth(Check.wellOf("a", "", "a b c d e f"), "a", 2, "4/21");
    Seekwell changed = Check.wellOf("a", "a", "b c");
    worth(changed, "a", 0, "2/3");
    changed.drop(1);
    Check.due("behind a drop", "3/4", () -> Check.told(changed, () -> changed.tellWorth(0)));
    Check.put(changed, "a");
    changed.revise(2);
    Check.due("behind a revision", "1/2", () -> Check.told(changed, () -> changed.tellWorth(0)));
    Check.due("of the revised one", "1/2", () -> Check.told(changed, () -> changed.tellWorth(2)));
  }

  private static void nots() {
    Seekwell well = three();
    worth(well, "!dog", 0, "0/1");
    worth(well, "!dog|cat", 0, "1/3");
    worth(well, "!(dog&x)|cat", 0, "1/3");
    worth(well, "!(!dog)|cat", 0, "1/3");
    worth(well, "!(!(dog|x))", 0, "0/1");
    worth(well, "(!dog)^3|cat", 0, "1/3");
    worth(well, "(dog)|!(cat)", 0, "2/1");
  }

  private static void weights() {
    Seekwell well = three();
    worth(well, "dog^5", 0, "10/1");
    worth(well, "<dog^5|cat", 0, "47/6");
    worth(well, "(dog^2|cat)^3", 0, "13/1");
    worth(well, "((dog^2)^3)^4", 0, "48/1");
    worth(well, "((dog|cat)^2&dog^3)^5", 0, "160/3");
    worth(well, "dog^1", 0, "2/1");
    worth(well, "(dog|cat^9)^9", 1, "72/1");
    String deep = "(".repeat(37) + "dog^9" + ")^9".repeat(37);
    worth(well, deep, 0, BigInteger.valueOf(9).pow(38).multiply(BigInteger.TWO) + "/1");
    worth(well, "(".repeat(37) + "cat^7" + ")^7".repeat(37), 1,
        BigInteger.valueOf(7).pow(38).multiply(BigInteger.valueOf(8)) + "/9");
    Check.ask(well, deep);
    Check.due("the greatest worth is found", 0, () -> well.hitAt(0));
  }

  private static void unlikeUnits() {
    Seekwell well = three();
    worth(well, "ca*", 0, "1/3");
    worth(well, "ca*", 1, "8/9");
    worth(well, "do*", 0, "2/1");
    worth(well, "dgo~", 0, "2/1");
    worth(well, ">dgo~", 0, "1/2");
    worth(well, "\"dog cat\"", 0, "1/2");
    worth(well, "\"cat\"", 1, "8/9");
    worth(well, "\"cat cat\"", 1, "2/3");
    worth(well, "{9 dog cat}", 0, "0/1");
    worth(well, "[0-999]", 0, "0/1");
    worth(well, "dog|[0-9]^9|{1 dog cat}^9", 0, "2/1");
    Seekwell more = Check.wellOf("dot do|dog dogma x", "a a a a", "dog");
    worth(more, "do*", 0, "16/9");
    worth(more, "dog~", 0, "14/9");
    worth(more, "\"a a\"", 1, "6/5");
    worth(more, "\"a a a\"", 1, "4/5");
    worth(more, "\"dot do\"", 0, "1/1");
    worth(more, ">\"dot do\"", 0, "0/1");
    Seekwell many = new Seekwell();
    for (int i = 0; i < 24; i++) {
      Check.add(many, i < 23 ? "a b" : "c", i, 'a');
    }
    worth(many, "a", 0, "25/72");
    worth(many, "a|c", 23, "25/4");
    worth(many, "a|b|c", 0, "25/36");
  }

  private static void order() {
    Seekwell well = three();
    Check.due("cat", "1 0", () -> order(well, "cat"));
    Check.due("cat|dog", "0 1", () -> order(well, "cat|dog"));
    Check.due("cat^9|dog", "1 0", () -> order(well, "cat^9|dog"));
    Check.due("what has no worth is last", "0 1 2", () -> order(well, "dog|!y"));
    Check.due("!dog", "1 2", () -> order(well, "!dog"));
    Seekwell lengths = Check.wellOf("a b c d", "a b", "a", "a b c", "x a|", "a|b c d e f");
    Check.due("the shortest first, the title thrice", "4 2 5 1 3 0", () -> order(lengths, "a"));
    Check.due("the title does not count", "2 1 3 0", () -> order(lengths, ">a"));
    Seekwell rare = Check.wellOf("a", "b", "b", "b", "c", "c");
    Check.due("what fewer texts have is worth more", "0 4 5 1 2 3", () -> order(rare, "a|b|c"));
  }

  private static void ties() {
    Seekwell well = Check.wellOf("b", "a", "a", "x", "a", "a a x");
    Check.due("ties by their numbers", "1 2 4 5", () -> order(well, "a"));
    Check.due("no worth at all", "0 1 2 3 4 5", () -> order(well, "[0-999]"));
    Seekwell fractions = Check.wellOf("a a a x x", "a", "a|x x x x x", "a a x");
    Check.due("like worths of unlike lengths", "0 1 3 2", () -> order(fractions, "a"));
    well.drop(1);
    Check.put(well, "a");
    well.revise(0);
    Check.due("the lowest number first", "0 2 4 5", () -> order(well, "a"));
  }

  /** Worths that differ by less than what a double could tell. */
  private static void nearlyTies() {
    Seekwell well = Check.wellOf("a x", "a b", "a x", "|x", "a y|");
    String great = "(".repeat(36) + "a^9" + ")^9".repeat(36);
    Check.due("all but one tie", "4 0 1 2", () -> order(well, great));
    Check.due("a little more is ahead", "4 1 0 2", () -> order(well, great + "|b"));
    Check.due("a little more is ahead early", 1, () -> well.top(2, 1));
    BigInteger fifths = BigInteger.valueOf(9).pow(37).multiply(BigInteger.TWO);
    Check.due("the great worth", fifths + "/5", () -> Check.told(well, () -> well.tellWorth(0)));
    Check.due("and a little more", fifths.add(BigInteger.valueOf(5)) + "/5",
        () -> Check.told(well, () -> well.tellWorth(1)));
    Check.due("isSound", true, well::isSound);
  }

  /** 1/23, 1/19, 1/17, 1/13 and 1/11, so many times that two sums differ by the product of all alone. */
  private static void nearlyTiesOfFractions() {
    String[] words = {"p", "q", "r", "s", "t"};
    int[] fitting = {22, 18, 16, 12, 10};
    int[] less = {10, 6, 2, 1, 1};
    int[] more = {1, 1, 1, 2, 8};
    // Both have 21 words.
    StringBuilder one = new StringBuilder("x ");
    StringBuilder other = new StringBuilder("x ".repeat(8));
    for (int i = 0; i < words.length; i++) {
      one.append((words[i] + " ").repeat(less[i]));
      other.append((words[i] + " ").repeat(more[i]));
    }
    for (boolean isLessFirst : new boolean[] {true, false}) {
      Seekwell well = isLessFirst ? Check.wellOf(one.toString(), other.toString())
          : Check.wellOf(other.toString(), one.toString());
      for (int number = 2; number < 24; number++) {
        StringBuilder text = new StringBuilder("|");
        for (int i = 0; i < words.length; i++) {
          text.append(number < fitting[i] ? words[i] + " " : "");
        }
        Check.add(well, text + "y ".repeat(20), 0, 'a');
      }
      String want = isLessFirst ? "1 0 " : "0 1 ";
      Check.due("the greater one is ahead", want, () -> order(well, "p|q|r|s|t").substring(0, 4));
    }
  }

  private static void firstOnes() {
    Seekwell well = new Seekwell();
    for (int i = 0; i < 15; i++) {
      Check.add(well, "a" + " x".repeat((i * 7) % 15), i, 'a');
    }
    Check.ask(well, "a");
    Check.put(well, "kept");
    for (int rank = 0; rank < 15; rank++) {
      int place = rank;
      int number = rank * 13 % 15;
      Check.due("hitAt " + rank, number, () -> well.hitAt(place));
      for (int most = 1; most <= 10; most++) {
        int looked = most;
        Object want = rank < most ? (Object) number : "throws.IndexOutOfBoundsException";
        Check.due("top " + most + ", " + rank, want, () -> well.top(looked, place));
      }
    }
    Check.due("the text stays", "kept", () -> Check.text(well));
    Check.due("isSound", true, well::isSound);
    Seekwell few = Check.wellOf("a", "b", "a");
    Check.ask(few, "a");
    Check.due("fewer than looked for", 2, () -> few.top(10, 1));
    Check.due("behind these", "throws.IndexOutOfBoundsException", () -> few.top(10, 2));
  }

  private static void wrongCalls() {
    Seekwell well = Check.wellOf("a", "a", "b");
    Check.put(well, "kept");
    Check.refused("hitAt of nothing", "IllegalStateException", well, () -> well.hitAt(0));
    Check.refused("hitAt of nothing, and no place", "IllegalStateException", well, () -> well.hitAt(-1));
    Check.refused("top of nothing", "IllegalStateException", well, () -> well.top(1, 0));
    Check.refused("top of nothing, of 0", "IllegalStateException", well, () -> well.top(0, 0));
    Check.refused("tellWorth of nothing", "IllegalStateException", well, () -> well.tellWorth(0));
    Check.refused("tellWorth of nothing, and no text", "IllegalStateException", well, () -> well.tellWorth(9));
    Check.ask(well, "a");
    Check.put(well, "kept");
    Check.refused("hitAt 2", "IndexOutOfBoundsException", well, () -> well.hitAt(2));
    Check.refused("hitAt -1", "IndexOutOfBoundsException", well, () -> well.hitAt(-1));
    Check.refused("hitAt greatest", "IndexOutOfBoundsException", well, () -> well.hitAt(Integer.MAX_VALUE));
    Check.refused("top 0", "IllegalArgumentException", well, () -> well.top(0, 0));
    Check.refused("top 11", "IllegalArgumentException", well, () -> well.top(11, 0));
    Check.refused("top -1", "IllegalArgumentException", well, () -> well.top(-1, 0));
    Check.refused("top 11, and no place", "IllegalArgumentException", well, () -> well.top(11, 20));
    Check.refused("top 1, 1", "IndexOutOfBoundsException", well, () -> well.top(1, 1));
    Check.refused("top 1, -1", "IndexOutOfBoundsException", well, () -> well.top(1, -1));
    Check.refused("top 10, 2", "IndexOutOfBoundsException", well, () -> well.top(10, 2));
    Check.refused("tellWorth 3", "NoSuchElementException", well, () -> well.tellWorth(3));
    Check.refused("tellWorth -1", "NoSuchElementException", well, () -> well.tellWorth(-1));
    well.drop(2);
    Check.refused("tellWorth of one that went", "NoSuchElementException", well, () -> well.tellWorth(2));
    Check.ask(well, "y");
    Check.refused("hitAt of none", "IndexOutOfBoundsException", well, () -> well.hitAt(0));
    Check.refused("top of none", "IndexOutOfBoundsException", well, () -> well.top(1, 0));
  }
}
