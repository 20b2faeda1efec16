/** Promise 27: simplify. */
public final class SimplerTest {
  public static void main(String[] args) {
    weightsAndNots();
    rowsInRows();
    theSame();
    needless();
    innerRowsFirst();
    whatIsAsked();
    oneBehindTheOther();
    Check.end("SimplerTest");
  }

  private static void simpler(String question, int units, String want) {
    Seekwell well = new Seekwell();
    Check.ask(well, question);
    Check.put(well, "kept");
    Check.due("simplify '" + question + "'", units, well::simplify);
    Check.due("the text stays '" + question + "'", "kept", () -> Check.text(well));
    Check.due("told '" + question + "'", want, () -> Check.told(well, well::tellQuestion));
    Check.due("simplify again '" + question + "'", units, well::simplify);
    Check.due("told again '" + question + "'", want, () -> Check.told(well, well::tellQuestion));
  }

  private static void weightsAndNots() {
    simpler("dog", 1, "dog");
    simpler("Dogs^3", 1, "dog");
    simpler("a^3|b^2", 2, "a|b");
    simpler("(a&b)^3|c", 3, "a&b|c");
    simpler("!(a|b)", 2, "!a&!b");
    simpler("!(a&b)", 2, "!a|!b");
    simpler("!(a|b)^4", 2, "!a&!b");
    simpler("!a", 1, "!a");
    simpler("!(!a)", 1, "a");
    simpler("!(!(!a))", 1, "!a");
    simpler("(!a)^2", 1, "!a");
    simpler("!(a^2)", 1, "!a");
    simpler("((a^2)^3)^4", 1, "a");
    simpler("!(!(a|b))", 2, "a|b");
    simpler("!((a|b)^2)", 2, "!a&!b");
    simpler("!((!(a|b))^2)", 2, "a|b");
    simpler("!(a&(b|!c))", 3, "!a|!b&c");
    simpler("!(a&!(b|c))", 3, "!a|b|c");
    simpler("!(a|b&c)", 3, "!a&(!b|!c)");
    simpler("!(<a*|>b~|\"c d\"|{2 c d}|[1-2])", 5, "!<a*&!>b~&!\"c d\"&!{2 c d}&![1-2]");
    simpler("x&!(a&b)&y", 4, "x&(!a|!b)&y");
    simpler("x|!(a|b)|y", 4, "x|!a&!b|y");
  }

  private static void rowsInRows() {
    simpler("a|(b|c)|d", 4, "a|b|c|d");
    simpler("a&(b&c)&d", 4, "a&b&c&d");
    simpler("a|(b|(c|(d|e)))", 5, "a|b|c|d|e");
    simpler("(a&(b&c))|d", 4, "a&b&c|d");
    simpler("a&(b|c&(d&e))", 5, "a&(b|c&d&e)");
    simpler("(a|b)^2|c", 3, "a|b|c");
    simpler("!(a|b)&!(c|d)", 4, "!a&!b&!c&!d");
    simpler("!(a&b)|!(c&d)", 4, "!a|!b|!c|!d");
    simpler("(a|b)&(c|d)", 4, "(a|b)&(c|d)");
  }

  private static void theSame() {
    simpler("a|b|a|c|b", 3, "a|b|c");
    simpler("a&a", 1, "a");
    simpler("a&b&a", 2, "a&b");
    simpler("dog|Dogs", 1, "dog");
    simpler("a|!a", 2, "a|!a");
    simpler("a|<a|>a|<a", 3, "a|<a|>a");
    simpler("a|a*|a~|\"a\"|a*|a~|\"a\"", 4, "a|a*|a~|\"a\"");
    simpler("\"a b\"|\"b a\"|\"a b\"", 2, "\"a b\"|\"b a\"");
    simpler("{1 a b}|{2 a b}|{1 b a}|{1 a b}", 3, "{1 a b}|{2 a b}|{1 b a}");
    simpler("[1-2]|[01-002]|[1-3]|[0-2]", 3, "[1-2]|[1-3]|[0-2]");
    simpler("a^2|a^3", 1, "a");
    simpler("(a|b)&(a|b)", 2, "a|b");
    simpler("a&b|c|a&b", 3, "a&b|c");
    simpler("!(a&b)&(!a|!b)", 2, "!a|!b");
    simpler("\"a b\"|\"a b c\"|\"a\"", 3, "\"a b\"|\"a b c\"|\"a\"");
  }

  private static void needless() {
    simpler("a|a&b", 1, "a");
    simpler("a&b|a", 1, "a");
    simpler("a&(a|b)", 1, "a");
    simpler("(a|b)&a", 1, "a");
    simpler("a|b&a|c", 2, "a|c");
    simpler("a&b&c|a&c", 2, "a&c");
    simpler("a&c|a&b&c", 2, "a&c");
    simpler("a&b|b&c|c&a", 6, "a&b|b&c|c&a");
    simpler("(a|b)&(a|b|c)&d", 3, "(a|b)&d");
    simpler("a&b|b&a", 2, "b&a");
    simpler("(a|b)&(b|a)", 2, "b|a");
    simpler("a&b&c|b&a|a&c&b|b", 1, "b");
    simpler("a&b|c&b&a|b&a", 2, "b&a");
    simpler("a&b&c|c&b&a|d", 4, "c&b&a|d");
    simpler("a&(b|c)|a&(b|c)&d", 3, "a&(b|c)");
    simpler("(b|c)|a&(b|c)", 5, "b|c|a&(b|c)");
    simpler("!a|!(a|b)", 1, "!a");
    simpler("!(!b)&(b|c)", 1, "b");
    simpler("a&!(b|c)|!b&!c", 2, "!b&!c");
  }

  private static void innerRowsFirst() {
    simpler("(a|a)&b", 2, "a&b");
    simpler("(a|a&b)&(a|c)", 1, "a");
    simpler("(a&b|a&b)&c", 3, "a&b&c");
    simpler("((a|b)&(a|b))|c", 3, "a|b|c");
    simpler("((a|b)&(a|b)&(a|b|c))|a", 2, "a|b");
    simpler("b&a|(a&b|b&a)", 2, "b&a");
    simpler("c&((a|a&d)|b)", 3, "c&(a|b)");
    simpler("c|((a&(a|d))&b)", 3, "c|a&b");
  }

  private static void whatIsAsked() {
    Seekwell well = Check.wellOf("a", "b", "a b", "c");
    Check.refused("simplify of nothing", "IllegalStateException", well, well::simplify);
    Check.ask(well, "a^5");
    Check.due("the worth with its weight", "25/6", () -> Check.told(well, () -> well.tellWorth(0)));
    Check.due("simplify", 1, well::simplify);
    Check.due("the worth without it", "5/6", () -> Check.told(well, () -> well.tellWorth(0)));
    Check.ask(well, "!(!(b))");
    Check.due("behind two '!' no worth", "0/1", () -> Check.told(well, () -> well.tellWorth(1)));
    well.simplify();
    Check.due("behind none", "5/6", () -> Check.told(well, () -> well.tellWorth(1)));
    Check.due("as many hits", 2, well::hits);
    Check.ask(well, "!(a|b)");
    Check.due("hits", 1, well::hits);
    well.simplify();
    Check.due("the same", 1, well::hits);
    Check.due("text 3", 3, () -> well.hitAt(0));
    Check.due("isSound", true, well::isSound);
    Check.ask(well, "a|!(");
    Check.due("a fault leaves the simpler one", "!a&!b", () -> Check.told(well, well::tellQuestion));
    longOnes();
  }

  /** What went from one question is not missing in a later one. */
  private static void oneBehindTheOther() {
    Seekwell well = new Seekwell();
    String[] questions = {"a|a", "a|b", "a&b|a|c&a", "a&b|c|d&e", "(a|b)&(b|a)&(c|c)", "(a|b)&(c|d)&(e|f)"};
    String[] wants = {"a", "a|b", "a", "a&b|c|d&e", "(b|a)&c", "(a|b)&(c|d)&(e|f)"};
    for (int i = 0; i < 36; i++) {
      String question = questions[i % 6];
      String want = wants[i % 6];
      for (int k = 0; k < i / 6; k++) {
        Check.ask(well, questions[k]);
      }
      Check.ask(well, question);
      well.simplify();
      Check.due("'" + question + "' behind others", want, () -> Check.told(well, well::tellQuestion));
    }
  }

  private static void longOnes() {
    StringBuilder given = new StringBuilder("!(");
    StringBuilder want = new StringBuilder();
    for (int i = 0; i < 26; i++) {
      char one = (char) ('a' + i);
      String two = String.valueOf((char) ('a' + (i + 1) % 26)) + (char) ('0' + i % 10);
      given.append(i > 0 ? "|" : "").append(one).append('&').append(two);
      want.append(i > 0 ? "&" : "").append("(!").append(one).append("|!").append(two).append(')');
    }
    given.append(')');
    Seekwell well = Check.wellOf("a", "b0 c1");
    Check.due("a long question", 52, () -> Check.ask(well, given.toString()));
    Check.due("simplify a long one", 52, well::simplify);
    Check.due("longer than what can be typed", want.toString(), () -> Check.told(well, well::tellQuestion));
    Check.refused("no sign can be typed", "IllegalStateException", well, () -> well.type('a'));
    Check.due("the last sign", ')', () -> well.signAt(want.length() - 1));
    Check.refused("behind the last sign", "IndexOutOfBoundsException", well, () -> well.signAt(want.length()));
    Check.due("asked again", 52, well::ask);
    Check.due("told again", want.toString(), () -> Check.told(well, well::tellQuestion));
    Check.due("read as a text", 2, () -> well.add(0, 'a'));
    Check.due("its words", 52, () -> well.length(2));
    Check.due("its last word", "a5", () -> Check.told(well, () -> well.tellWord(2, false, 50)));
  }
}
