/** Promises 29 and 30: fits, hits, and what fitting is; also 34 and 35: tagged, valued. */
public final class FitTest {
  public static void main(String[] args) {
    words();
    beginningsAndSlips();
    phrases();
    nearness();
    values();
    rows();
    textsThatChange();
    wrongCalls();
    taggedAndValued();
    Check.end("FitTest");
  }

  /** The numbers of the texts that fit a question. */
  private static String fitting(Seekwell well, String question) {
    if (Check.ask(well, question) < 0) {
      return "a fault";
    }
    StringBuilder all = new StringBuilder();
    int count = 0;
    for (int number = 0; number < 24; number++) {
      if (well.isThere(number) && well.fits(number)) {
        all.append(count > 0 ? " " : "").append(number);
        count++;
      }
    }
    return well.hits() == count ? all.toString() : well.hits() + " hits";
  }

  private static void fit(Seekwell well, String question, String want) {
    Check.due(question, want, () -> fitting(well, question));
  }

  private static void words() {
    Seekwell well = Check.wellOf("Old Dogs|The dogs barked", "cat|a dog sat", "the cat sat", "dog|", "");
    fit(well, "dog", "0 1 3");
    fit(well, "DOGS", "0 1 3");
    fit(well, "<dog", "0 3");
    fit(well, ">dog", "0 1");
    fit(well, "barked", "0");
    fit(well, "<the", "");
    fit(well, "do", "");
    fit(well, "!dog", "2 4");
    fit(well, "!<dog", "1 2 4");
    fit(well, "dog^9", "0 1 3");
  }

  private static void beginningsAndSlips() {
    Seekwell well = Check.wellOf("dogs|cat", "cart|dot", "barked", "do it", "gdo");
    fit(well, "do*", "0 1 3");
    fit(well, "<do*", "0");
    fit(well, ">do*", "1 3");
    fit(well, "dogs*", "");
    fit(well, "Dog*", "0");
    fit(well, "bark*", "2");
    fit(well, "barked*", "");
    fit(well, "dog~", "0 1 3");
    fit(well, "<dog~", "0");
    fit(well, ">dog~", "1 3");
    fit(well, "dogs~", "0");
    fit(well, "dgo~", "0 3 4");
    fit(well, "barks~", "2");
    fit(well, "barked~", "");
    fit(well, "cat~", "0 1");
    fit(well, "it~", "3");
  }

  private static void phrases() {
    Seekwell well = Check.wellOf("the old|dog barked", "old dog|the old", "a the old dog barks", "dog old the",
        "the old the old dog");
    fit(well, "\"the old\"", "0 1 2 4");
    fit(well, "<\"the old\"", "0");
    fit(well, ">\"the old\"", "1 2 4");
    fit(well, "\"old dog\"", "1 2 4");
    fit(well, "\"the old dog\"", "2 4");
    fit(well, "\"The Olds Dogs Barked\"", "2");
    fit(well, "\"dog\"", "0 1 2 3 4");
    fit(well, "<\"dog\"", "1");
    fit(well, "\"barked\"", "0 2");
    fit(well, "\"the dog\"", "");
    fit(well, "\"dog barked\"", "0 2");
    fit(well, "\"the old dog bark x\"", "");
    fit(well, "!\"the old\"", "3");
  }

  private static void nearness() {
    Seekwell well = Check.wellOf("a x b", "a b|c", "b a", "a x x b x a b", "c|a b");
    fit(well, "{0 a b}", "");
    fit(well, "{1 a b}", "1 2 3 4");
    fit(well, "{1 b a}", "1 2 3 4");
    fit(well, "{2 a b}", "0 1 2 3 4");
    fit(well, "<{1 a b}", "1");
    fit(well, ">{1 a b}", "2 3 4");
    fit(well, "{9 a c}", "");
    fit(well, "{0 a a}", "0 1 2 3 4");
    fit(well, "{2 a x b}", "0 3");
    fit(well, "{1 a x b}", "");
    fit(well, "{1 a b a}", "1 2 3 4");
    fit(well, "{9 a b c}", "");
    fit(well, "!{1 a b}", "0");
    Seekwell wide = Check.wellOf("a 0 1 2 3 4 5 6 7 8 b", "a 0 1 2 3 4 5 6 7 b", "b c x c b a x a c");
    fit(wide, "{9 a b}", "1 2");
    fit(wide, "{8 a b}", "2");
    fit(wide, "{2 a b c}", "2");
    fit(wide, "{1 a b c}", "");
    fit(wide, "{1 c b}", "2");
    fit(wide, "{1 Cs Bs}", "");
  }

  private static void values() {
    Seekwell well = new Seekwell();
    Check.add(well, "a", 0, 'a');
    Check.add(well, "a", 9, 'a');
    Check.add(well, "b", 10, 'a');
    Check.add(well, "b", 999, 'a');
    fit(well, "[0-999]", "0 1 2 3");
    fit(well, "[0-0]", "0");
    fit(well, "[9-10]", "1 2");
    fit(well, "[009-010]", "1 2");
    fit(well, "[1-8]", "");
    fit(well, "[10-9]", "");
    fit(well, "[11-998]", "");
    fit(well, "![9-10]", "0 3");
    fit(well, "a&[9-999]", "1");
  }

  private static void rows() {
    Seekwell well = Check.wellOf("a", "b", "c", "a b", "a c", "b c", "a b c", "");
    fit(well, "a|b", "0 1 3 4 5 6");
    fit(well, "a&b", "3 6");
    fit(well, "a|b&c", "0 3 4 5 6");
    fit(well, "(a|b)&c", "4 5 6");
    fit(well, "a&b|c", "2 3 4 5 6");
    fit(well, "a&(b|c)", "3 4 6");
    fit(well, "!a&!b", "2 7");
    fit(well, "!(a|b)", "2 7");
    fit(well, "!(a&b)", "0 1 2 4 5 7");
    fit(well, "!(!a)", "0 3 4 6");
    fit(well, "!(!(!a))", "1 2 5 7");
    fit(well, "!((!a)^2)&!b^3", "0 4");
    fit(well, "((a|b)^2)&!c", "0 1 3");
    fit(well, "a|!a", "0 1 2 3 4 5 6 7");
    fit(well, "a&!a", "");
    fit(well, "(a&b|b&c|c&a)&!(a&b&c)", "3 4 5");
  }

  private static void textsThatChange() {
    Seekwell well = Check.wellOf("a", "b", "a");
    fit(well, "a", "0 2");
    well.drop(0);
    Check.due("one went", 1, well::hits);
    Check.put(well, "a");
    well.revise(1);
    Check.due("one was revised", 2, well::hits);
    Check.due("it fits", true, () -> well.fits(1));
    Check.add(well, "a", 0, 'a');
    Check.due("one came", 3, well::hits);
    well.seal();
    Check.add(well, "a b", 0, 'a');
    Check.due("in another part", 4, well::hits);
    well.join(0);
    Check.due("joined", 4, well::hits);
    Check.put(well, "kept");
    well.fits(1);
    well.hits();
    Check.due("the text stays", "kept", () -> Check.text(well));
  }

  private static void wrongCalls() {
    Seekwell well = Check.wellOf("a", "b");
    well.drop(1);
    Check.put(well, "kept");
    Check.refused("fits of nothing", "IllegalStateException", well, () -> well.fits(0));
    Check.refused("fits of nothing, and no text", "IllegalStateException", well, () -> well.fits(9));
    Check.refused("hits of nothing", "IllegalStateException", well, well::hits);
    Check.refused("tagged of nothing", "IllegalStateException", well, () -> well.tagged('a'));
    Check.refused("tagged of nothing, and no tag", "IllegalStateException", well, () -> well.tagged('A'));
    Check.refused("valued of nothing", "IllegalStateException", well, () -> well.valued(0, 9));
    Check.ask(well, "a");
    Check.put(well, "kept");
    Check.refused("fits 1, which went", "NoSuchElementException", well, () -> well.fits(1));
    Check.refused("fits 2", "NoSuchElementException", well, () -> well.fits(2));
    Check.refused("fits -1", "NoSuchElementException", well, () -> well.fits(-1));
    Check.refused("fits 24", "NoSuchElementException", well, () -> well.fits(24));
    for (char tag : new char[] {'`', '{', 'A', 0, 65535}) {
      Check.refused("tagged " + (int) tag, "IllegalArgumentException", well, () -> well.tagged(tag));
    }
  }

  private static void taggedAndValued() {
    Seekwell well = new Seekwell();
    Check.add(well, "a", 5, 'a');
    Check.add(well, "a", 6, 'z');
    Check.add(well, "b", 5, 'a');
    Check.add(well, "a", 999, 'a');
    Check.add(well, "a", 0, 'm');
    Check.ask(well, "a");
    Check.due("tagged a", 2, () -> well.tagged('a'));
    Check.due("tagged z", 1, () -> well.tagged('z'));
    Check.due("tagged b", 0, () -> well.tagged('b'));
    Check.due("tagged m, of the value 0", 1, () -> well.tagged('m'));
    Check.due("valued 5 to 6", 2, () -> well.valued(5, 6));
    Check.due("valued 5 to 5", 1, () -> well.valued(5, 5));
    Check.due("valued 0 to 999", 4, () -> well.valued(0, 999));
    Check.due("valued all", 4, () -> well.valued(Integer.MIN_VALUE, Integer.MAX_VALUE));
    Check.due("valued 6 to 5", 0, () -> well.valued(6, 5));
    Check.due("valued 999 to 0", 0, () -> well.valued(999, 0));
    Check.due("valued below", 0, () -> well.valued(-9, -1));
    Check.due("valued above", 0, () -> well.valued(1000, 2000));
    Check.due("valued 7 to 998", 0, () -> well.valued(7, 998));
    Check.ask(well, "!a");
    Check.due("tagged a of another question", 1, () -> well.tagged('a'));
    Check.due("valued of another question", 1, () -> well.valued(0, 999));
    well.drop(2);
    Check.due("tagged behind a drop", 0, () -> well.tagged('a'));
    Check.due("valued behind a drop", 0, () -> well.valued(0, 999));
  }
}
