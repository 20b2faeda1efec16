/** Promises 36 and 37: spanBegin, spanLength. */
public final class SpanTest {
  public static void main(String[] args) {
    words();
    phrases();
    nearness();
    items();
    none();
    wrongCalls();
    Check.end("SpanTest");
  }

  /** The span of the one text of a well, as its begin and its length. */
  private static void span(String text, String question, String want) {
    Seekwell well = Check.wellOf(text);
    Check.ask(well, question);
    Check.put(well, "kept");
    String named = question + " in '" + text + "'";
    if (want.startsWith("throws.")) {
      Check.refused("spanBegin of " + named, want.substring(7), well, () -> well.spanBegin(0));
      Check.refused("spanLength of " + named, want.substring(7), well, () -> well.spanLength(0));
    } else {
      Check.due(named, want, () -> well.spanBegin(0) + " " + well.spanLength(0));
    }
    Check.due("the text stays, " + named, "kept", () -> Check.text(well));
  }

  private static void words() {
    span("a", "a", "0 1");
    span("x y a", "a", "2 1");
    span("a x a", "a", "0 1");
    span("a x b", "a&b", "0 3");
    span("a x b x a b", "a&b", "4 2");
    span("a b x b a", "a&b", "0 2");
    span("x b a x a b", "a&b", "1 2");
    span("a b x x c b a c", "a&b&c", "4 3");
    span("a x c x b", "a|b|c", "0 5");
    span("a a b b", "a&b", "1 2");
    span("t a b|x a x b", "a&b", "1 3");
    span("Dogs x barked", "barks|dogged", "2 1");
    span("Dogs x barked", "barking|dogs", "0 3");
  }

  private static void phrases() {
    span("b c d b", "d&\"b c\"", "0 3");
    span("a b a c b", "\"a c\"&b", "1 3");
    span("a b c", "\"a b c\"", "0 3");
    span("x a b c", "\"b c\"|\"a b\"", "1 3");
    span("a x b a b", "\"a b\"|x", "1 4");
    span("a b x x b a x a b", "\"a b\"&x", "0 3");
    span("a a a", "\"a a\"", "0 2");
    span("a b", "\"a b\"|\"b a\"", "0 2");
  }

  private static void nearness() {
    span("a x b x x c a b", "{2 a b}", "6 2");
    span("a x b c", "{0 a b}|c", "0 4");
    span("a x b", "{2 b a}", "0 3");
    span("a x b", "{0 a z}|b", "0 3");
    span("x a", "{0 a a}", "1 1");
    span("b a|x a", ">{0 a a}", "1 1");
    span("a b c d", "{3 a d}&b", "0 4");
  }

  private static void items() {
    span("dogma x bark", "do*&brak~", "0 3");
    span("dot dog x dig", "dog~&do*", "0 1");
    span("x dig x dot", "dog~&do*", "3 1");
    span("x a", "a|z", "1 1");
    span("x a b", "a&!z&b", "1 2");
    span("a x b", "a&!(!b)", "0 1");
    span("a x b", "!(!(a&b))|b", "2 1");
    span("a|x b a", "<a&b", "1 1");
    span("a|x b a", ">a&b", "1 2");
    span("a|x b a", "a&b", "1 2");
    span("a x b", "(a^2|b)^3", "0 3");
    span("x a b", "[0-9]&b", "2 1");
    span("a x b", "a|!b", "0 1");
    span("a " + "x ".repeat(78) + "b", "a&b", "0 80");
    span("a " + "x ".repeat(77) + "b a", "a&b", "78 2");
  }

  private static void none() {
    span("a|x", "a", "throws.UnsupportedOperationException");
    span("a|", "a", "throws.UnsupportedOperationException");
    span("a|a", "<a", "throws.UnsupportedOperationException");
    span("x", "[0-9]", "throws.UnsupportedOperationException");
    span("x", "!a", "throws.UnsupportedOperationException");
    span("a", "!(!a)", "throws.UnsupportedOperationException");
    span("a b|x", "{1 a b}", "throws.UnsupportedOperationException");
    span("a|a", "<{1 a a}", "throws.UnsupportedOperationException");
    span("a b|a x b", "\"a b\"", "throws.UnsupportedOperationException");
    span("b", "a", "throws.NoSuchElementException");
    span("a|x", ">a", "throws.NoSuchElementException");
    span("a", "a&b", "throws.NoSuchElementException");
    span("", "!a", "throws.UnsupportedOperationException");
  }

  private static void wrongCalls() {
    Seekwell well = Check.wellOf("a", "a", "b");
    Check.refused("spanBegin of nothing", "IllegalStateException", well, () -> well.spanBegin(0));
    Check.refused("spanLength of nothing", "IllegalStateException", well, () -> well.spanLength(0));
    Check.refused("spanBegin of nothing, no text", "IllegalStateException", well, () -> well.spanBegin(5));
    Check.refused("spanLength of nothing, no text", "IllegalStateException", well, () -> well.spanLength(5));
    Check.ask(well, "a");
    well.drop(1);
    for (int number : new int[] {1, 2, 3, -1, 24, Integer.MAX_VALUE, Integer.MIN_VALUE}) {
      Check.refused("spanBegin " + number, "NoSuchElementException", well, () -> well.spanBegin(number));
      Check.refused("spanLength " + number, "NoSuchElementException", well, () -> well.spanLength(number));
    }
    Check.due("spanBegin 0", 0, () -> well.spanBegin(0));
    Check.put(well, "x x a");
    well.revise(0);
    Check.due("spanBegin of the revised one", 2, () -> well.spanBegin(0));
    Check.due("spanLength of the revised one", 1, () -> well.spanLength(0));
    Check.ask(well, "!(!a)");
    Check.refused("no items", "UnsupportedOperationException", well, () -> well.spanBegin(0));
    well.simplify();
    Check.due("an item, made simpler", 2, () -> well.spanBegin(0));
  }
}
