/** Promises 26 and 28: ask, with its faults, and tellQuestion. */
public final class AskTest {
  public static void main(String[] args) {
    counting();
    faults();
    faultsInside();
    faultsOfSizes();
    asking();
    told();
    toldParentheses();
    longQuestions();
    Check.end("AskTest");
  }

  private static void asks(String question, int want) {
    Seekwell well = new Seekwell();
    Check.put(well, question);
    Check.due("ask '" + question + "'", want, well::ask);
    Check.due("it takes the text '" + question + "'", 0, well::erase);
  }

  private static void fault(String question, int place) {
    asks(question, -1 - place);
  }

  private static void tells(String question, String want) {
    Seekwell well = new Seekwell();
    Check.ask(well, question);
    Check.due("told '" + question + "'", want, () -> Check.told(well, well::tellQuestion));
    int units = Check.ask(well, want);
    Check.due("told again '" + question + "'", want, () -> Check.told(well, well::tellQuestion));
    Check.due("units told again '" + question + "'", units, () -> Check.ask(well, question));
  }

  private static void tells(String question) {
    tells(question, question);
  }

  private static void counting() {
    asks("dog", 1);
    asks("a|b", 2);
    asks("a&b", 2);
    asks("a&a", 2);
    asks("!a", 1);
    asks("a^9", 1);
    asks("(((a)))", 1);
    asks("a|b&c|!(d&e)^2", 5);
    asks("\"a b c\"", 1);
    asks("{3 a b c}", 1);
    asks("[1-2]", 1);
    asks("<dog&>cat|dog*|dog~|<\"a b\"|>{0 a b}|[0-999]", 7);
  }

  private static void faults() {
    fault("", 0);
    fault(" ", 0);
    fault("&", 0);
    fault("a b", 1);
    fault("a ", 1);
    fault(" a", 0);
    fault("a&", 2);
    fault("a|", 2);
    fault("a&|b", 2);
    fault("a||b", 2);
    fault("!", 1);
    fault("!!a", 1);
    fault("!a!b", 2);
    fault("(a", 2);
    fault("(", 1);
    fault("()", 1);
    fault("a)", 1);
    fault("(a))", 3);
    fault("(a)(b)", 3);
    fault("(a)b", 3);
    fault("a(b)", 1);
    fault("((a)", 4);
    fault("((a)|", 5);
    fault("a^", 2);
    fault("a^0", 2);
    fault("a^a", 2);
    fault("a^12", 3);
    fault("a^1^2", 3);
    fault("^1", 0);
    fault("!^1", 1);
    fault("(a)^", 4);
    fault("(a)^0", 4);
    fault("(a^)", 3);
    fault("dog**", 4);
    fault("dog~*", 4);
    fault("dog*a", 4);
    fault("*dog", 0);
    fault("a,b", 1);
    fault("a@", 1);
    fault("a/b", 1);
    fault("a:b", 1);
    fault("a[b", 1);
    fault("a`b", 1);
    fault("a{b", 1);
    fault("a-b", 1);
    fault("a\"b\"", 1);
  }

  private static void faultsInside() {
    fault("<", 1);
    fault("<<a", 1);
    fault("<>a", 1);
    fault("<(a)", 1);
    fault("<[1-2]", 1);
    fault("<!a", 1);
    fault("< a", 1);
    fault("\"", 1);
    fault("\"\"", 1);
    fault("\" a\"", 1);
    fault("\"a", 2);
    fault("\"a ", 3);
    fault("\"a \"", 3);
    fault("\"a  b\"", 3);
    fault("\"a,b\"", 2);
    fault("\"a*\"", 2);
    fault("\"<a\"", 1);
    fault("\"a\"b", 3);
    fault("\"a\"*", 3);
    fault("{", 1);
    fault("{a b}", 1);
    fault("{3", 2);
    fault("{3a b}", 2);
    fault("{12 a b}", 2);
    fault("{3}", 2);
    fault("{3 ", 3);
    fault("{3 }", 3);
    fault("{3  a b}", 3);
    fault("{3 a", 4);
    fault("{3 a}", 4);
    fault("{3 a ", 5);
    fault("{3 a }", 5);
    fault("{3 a b", 6);
    fault("{3 a b }", 7);
    fault("{3 a b*}", 6);
    fault("{3 a b}~", 7);
    fault("[", 1);
    fault("[]", 1);
    fault("[-1]", 1);
    fault("[1", 2);
    fault("[1]", 2);
    fault("[1-", 3);
    fault("[1-]", 3);
    fault("[1-2", 4);
    fault("[1--2]", 3);
    fault("[1-2-3]", 4);
    fault("[1 -2]", 2);
    fault("[a-2]", 1);
    fault("[1-2]*", 5);
  }

  private static void faultsOfSizes() {
    asks("abcdefghijkl", 1);
    fault("abcdefghijklm", 12);
    asks("abcdefghijkl*", 1);
    fault("abcdefghijklm*", 12);
    fault("<abcdefghijklm~", 13);
    asks("\"abcdefghijkl abcdefghijkl\"", 1);
    fault("\"abcdefghijkl abcdefghijklm\"", 26);
    fault("{1 a abcdefghijklm}", 17);
    asks("[000-999]", 1);
    fault("[0000-1]", 4);
    fault("[1-0001]", 6);
    asks("[9-1]", 1);
  }

  private static void asking() {
    Seekwell well = Check.wellOf("dog", "cat");
    Check.put(well, "dog&");
    Check.due("a fault", -5, well::ask);
    Check.refused("nothing was asked: tellQuestion", "IllegalStateException", well, well::tellQuestion);
    Check.refused("nothing was asked: simplify", "IllegalStateException", well, well::simplify);
    Check.refused("nothing was asked: fits", "IllegalStateException", well, () -> well.fits(0));
    Check.due("dog", 1, () -> Check.ask(well, "dog"));
    Check.due("it is asked", true, () -> well.fits(0));
    Check.due("at a fault", -2, () -> Check.ask(well, "!|cat"));
    Check.due("that of before is asked", true, () -> well.fits(0));
    Check.due("and told", "dog", () -> Check.told(well, well::tellQuestion));
    Check.due("a long fault", -7, () -> Check.ask(well, "(a|b|c("));
    Check.due("that of before is told", "dog", () -> Check.told(well, well::tellQuestion));
    Check.due("another one", 2, () -> Check.ask(well, "cat&!dog"));
    Check.due("is asked then", true, () -> well.fits(1));
    Check.due("and told then", "cat&!dog", () -> Check.told(well, well::tellQuestion));
    Check.due("what was told can be asked", 2, well::ask);
    Check.due("it was taken", 0, well::erase);
  }

  private static void told() {
    tells("dog");
    tells("DOGS", "dog");
    tells("a|b&c|d");
    tells("!a&!b");
    tells("a^1|b^2|!c^9", "a|b^2|!c^9");
    tells("Barked*|Dogs~|<Dogs*|>Dogs~", "barked*|dogs~|<dogs*|>dogs~");
    tells("\"The Dogs Barked\"", "\"the dog bark\"");
    tells("\"dogs\"", "\"dog\"");
    tells("<\"a b\"|>{0 Dogs cats}", "<\"a b\"|>{0 dog cat}");
    tells("{3 a a}");
    tells("[007-010]", "[7-10]");
    tells("[000-00]|[0-999]|[100-090]", "[0-0]|[0-999]|[100-90]");
    tells("![1-2]^3");
    tells("abcdefghijks", "abcdefghijk");
  }

  private static void toldParentheses() {
    tells("(a)", "a");
    tells("((a|b))", "a|b");
    tells("(a|b)|c", "a|b|c");
    tells("a&(b&c)", "a&b&c");
    tells("(a&b)|c", "a&b|c");
    tells("a&(b|c)");
    tells("(a|b)&(c|d)");
    tells("a&((b|c))", "a&(b|c)");
    tells("a&((b|c)|d)", "a&(b|c|d)");
    tells("a|(b&(c|d))", "a|b&(c|d)");
    tells("!(a)", "!a");
    tells("(!a)", "!a");
    tells("(a)^2", "a^2");
    tells("(a^2)", "a^2");
    tells("(a^1)^2", "a^2");
    tells("!(a|b)");
    tells("!(a&b)");
    tells("(a|b)^3");
    tells("(a&b)^3&c");
    tells("!(a&b)^3|c");
    tells("!(!a)");
    tells("!(a^2)");
    tells("(!a)^2");
    tells("(a^2)^3");
    tells("!((a^2)^3)");
    tells("((a^2)^3)^4");
    tells("!(((!(a))))", "!(!a)");
    tells("((((a|b)))^2)", "(a|b)^2");
    tells("((a|b)^2)^3");
    tells("!(!(a|b))");
    tells("!((a&b))", "!(a&b)");
    tells("(a|b)^1&c", "(a|b)&c");
    tells("((a&b)^1)&c", "a&b&c");
    tells("(a|b)^2|c");
    tells("!(a|b)&c");
    tells("((!a))&b", "!a&b");
    tells("(((a^2)))&b", "a^2&b");
    tells("((a|b)^2)&c", "(a|b)^2&c");
    tells("(([1-2]))^2", "[1-2]^2");
  }

  private static void longQuestions() {
    String deep = "(".repeat(79) + "ab" + ")".repeat(79);
    tells(deep, "ab");
    fault("(".repeat(160), 160);
    fault("(".repeat(80) + "a" + ")".repeat(79), 160);
    tells("!(".repeat(39) + "!ab" + ")".repeat(39) + "|c");
    String wide = "a&".repeat(79) + "b";
    tells(wide);
    asks("a|".repeat(79) + "bc", 80);
    tells("(a^9".repeat(1) + ")^9", "(a^9)^9");
    String nested = "(".repeat(39) + "a^2" + ")^2".repeat(39);
    tells(nested);
  }
}
