/** The boundary cases of promises 26 to 39: the least, the greatest, the first beyond, none, all, and the refused. */
public final class BoundaryQuestionsTest {
  private static final String ARGUMENT = "IllegalArgumentException";
  private static final String STATE = "IllegalStateException";
  private static final String INDEX = "IndexOutOfBoundsException";
  private static final String NONE = "NoSuchElementException";
  private static final String UNSUPPORTED = "UnsupportedOperationException";
  private static final int LEAST = Integer.MIN_VALUE;
  private static final int GREATEST = Integer.MAX_VALUE;

  private BoundaryQuestionsTest() {
  }

  public static void main(String[] args) {
    nothingAsked();
    faultsAtTheEnds();
    theQuestionOfBefore();
    leastAndGreatestQuestions();
    toldQuestions();
    simplerOnes();
    fitsNoneAndAll();
    spansOfValues();
    ranks();
    firstOnes();
    worths();
    tags();
    values();
    spansThatAreNot();
    leastAndGreatestSpans();
    slots();
    news();
    Check.end("BoundaryQuestionsTest");
  }

  /** A well of 24 texts, of which the first ones have the word a alone, and the others the word b. */
  private static Seekwell full(int having) {
    Seekwell well = new Seekwell();
    for (int i = 0; i < 24; i++) {
      Check.add(well, i < having ? "a" : "b", i, (char) ('a' + i));
    }
    return well;
  }

  // ---- 27 to 38: "if nothing was asked", ahead of all else

  private static void nothingAsked() {
    Seekwell well = Check.wellOf("a", "b");
    for (String fault : new String[] {"", "a&", "(a", "kept"}) {
      if (!fault.equals("kept")) {
        Check.due("a fault, '" + fault + "'", -1 - fault.length(), () -> Check.ask(well, fault));
      }
      Check.put(well, "kept");
      Check.refused("simplify", STATE, well, well::simplify);
      Check.refused("tellQuestion", STATE, well, well::tellQuestion);
      Check.refused("hits", STATE, well, well::hits);
      for (int number : new int[] {0, -1, 2, 24, LEAST, GREATEST}) {
        Check.refused("fits " + number, STATE, well, () -> well.fits(number));
        Check.refused("hitAt " + number, STATE, well, () -> well.hitAt(number));
        Check.refused("top 1, " + number, STATE, well, () -> well.top(1, number));
        Check.refused("top " + number + ", 0", STATE, well, () -> well.top(number, 0));
        Check.refused("top " + number + ", -1", STATE, well, () -> well.top(number, -1));
        Check.refused("tellWorth " + number, STATE, well, () -> well.tellWorth(number));
        Check.refused("valued " + number, STATE, well, () -> well.valued(number, 9));
        Check.refused("spanBegin " + number, STATE, well, () -> well.spanBegin(number));
        Check.refused("spanLength " + number, STATE, well, () -> well.spanLength(number));
        Check.refused("save " + number, STATE, well, () -> well.save(number));
      }
      for (char tag : new char[] {'a', 'z', '`', '{', 0, 65535}) {
        Check.refused("tagged " + (int) tag, STATE, well, () -> well.tagged(tag));
      }
      Check.due("nothing is saved", 0, () -> well.news(0));
    }
  }

  // ---- 26: "or -1 less the fault"

  private static void faultsAtTheEnds() {
    String[] questions = {"", " ", "~", "a ", "a|", "a~~", "a".repeat(160), "a|".repeat(80), "(".repeat(160),
        "a|".repeat(79) + "a&", "a|".repeat(79) + " a", "\"" + "a ".repeat(79) + "a", "[" + "1".repeat(159),
        "a|".repeat(77) + "[1-2]x", "a|".repeat(77) + "[1-2", "{9" + " a".repeat(79)};
    int[] faults = {0, 0, 0, 1, 2, 2, 12, 160, 160, 160, 158, 160, 4, 159, 158, 160};
    for (int i = 0; i < questions.length; i++) {
      String question = questions[i];
      Seekwell well = new Seekwell();
      int fault = faults[i];
      Check.due("ask '" + question + "'", -1 - fault, () -> Check.ask(well, question));
      Check.due("the text is taken away", 0, well::erase);
      Check.refused("nothing is asked", STATE, well, well::hits);
    }
  }

  // ---- 26: "at a fault that of before"

  private static void theQuestionOfBefore() {
    Seekwell well = Check.wellOf("a", "b", "a b");
    Check.ask(well, "!(a&b)^3");
    String[] faults = {"", "b&", "b|(a", "b)", "a b", "aaaaaaaaaaaaa", "b^0", "[1-1000]", "((((b))))("};
    for (String fault : faults) {
      Check.due("a fault, '" + fault + "'", true, () -> Check.ask(well, fault) < 0);
      Check.due("hits of before", 2, well::hits);
      Check.due("the first of before", 0, () -> well.hitAt(0));
      Check.due("the question of before", "!(a&b)^3", () -> Check.told(well, well::tellQuestion));
    }
    well.erase();
    Check.due("made simpler", 2, well::simplify);
    Check.due("at a fault", -1, well::ask);
    Check.due("the simpler one of before", "!a|!b", () -> Check.told(well, well::tellQuestion));
    Check.due("asked", 1, () -> Check.ask(well, "b"));
    Check.due("in place of it", "b", () -> Check.told(well, well::tellQuestion));
  }

  // ---- 26: "how many words, beginnings, slips, phrases, nearnesses and spans of values it has"

  private static void leastAndGreatestQuestions() {
    String[] ones = {"a", "<a", ">a", "a*", "a~", "\"a\"", "\"a a a\"", "{0 a a}", "{9 a a a a}", "[0-0]", "[999-000]",
        "!a", "a^1", "a^9", "(a)", "!(!(!a))", "((((a^2)^3)^4)^5)", "<\"a\"", ">{0 a a}", "<a*", ">a~", "![0-1]^9"};
    for (String one : ones) {
      Check.due("ask '" + one + "'", 1, () -> Check.ask(new Seekwell(), one));
    }
    String[] many = {"a|".repeat(79) + "a", "a&".repeat(79) + "ab", "a*|".repeat(53) + "b", "a|a&".repeat(39) + "aaa",
        "[0-9]|".repeat(26) + "a", "\"a b\"&".repeat(26) + "a*", "{0 a b}|".repeat(20).substring(0, 159)};
    int[] counts = {80, 80, 54, 79, 27, 27, 20};
    for (int i = 0; i < many.length; i++) {
      String question = many[i];
      Check.due("ask '" + question + "'", counts[i], () -> Check.ask(new Seekwell(), question));
    }
    String deep = "!(".repeat(53) + "a" + ")".repeat(53);
    Seekwell well = Check.wellOf("a", "b");
    Check.due("as deep as can be", 1, () -> Check.ask(well, deep));
    Check.due("told alike", deep.substring(0, 104) + "!a" + deep.substring(108),
        () -> Check.told(well, well::tellQuestion));
    Check.due("behind 53 '!'", "false true", () -> well.fits(0) + " " + well.fits(1));
    Check.due("isSound", true, well::isSound);
    Check.due("simplify", 1, well::simplify);
    Check.due("one '!' is left", "!a", () -> Check.told(well, well::tellQuestion));
  }

  // ---- 28: "its numbers without a 0 ahead but 0, weights above 1 alone", and the text that can be longer than typed

  private static void tells(String question, String want) {
    Seekwell well = new Seekwell();
    Check.ask(well, question);
    Check.put(well, "what was there, longer than this");
    Check.due("'" + question + "' told", want, () -> Check.told(well, well::tellQuestion));
  }

  private static void toldQuestions() {
    tells("[0-0]", "[0-0]");
    tells("[00-000]", "[0-0]");
    tells("[01-001]", "[1-1]");
    tells("[10-100]", "[10-100]");
    tells("[010-099]", "[10-99]");
    tells("[999-0]", "[999-0]");
    tells("a^1", "a");
    tells("a^2", "a^2");
    tells("a^9", "a^9");
    tells("(a|b)^1", "a|b");
    tells("(a^2)^1", "a^2");
    tells("(a^1)^2", "a^2");
    tells("!(a^1)", "!a");
    tells("!(a^2)", "!(a^2)");
    tells("{0 a b}", "{0 a b}");
    tells("xxxs", "xxx");
    tells("xxs", "xxs");
    tells("xxxxs*|xxxxs~|xxxxs", "xxxxs*|xxxxs~|xxxx");
    tells("ABCDEFGHIJKL", "abcdefghijkl");
  }

  // ---- 27: "how many such it has then", of one and of most

  private static void simplerOnes() {
    Seekwell one = Check.wellOf("a");
    Check.ask(one, "a");
    Check.due("simplify of one", 1, one::simplify);
    Check.due("and again", 1, one::simplify);
    Check.ask(one, "a|".repeat(79) + "a");
    Check.due("80 that are the same", 1, one::simplify);
    Check.due("one is left", "a", () -> Check.told(one, one::tellQuestion));
    StringBuilder unlike = new StringBuilder();
    for (int i = 0; i < 53; i++) {
      unlike.append(i > 0 ? "|" : "").append((char) ('a' + i % 26)).append(i / 26);
    }
    Check.ask(one, unlike.toString());
    Check.due("53 that are not", 53, one::simplify);
    Check.due("all are left", unlike.toString(), () -> Check.told(one, one::tellQuestion));
    Check.ask(one, "a&!a");
    Check.due("what never fits", 2, one::simplify);
    Check.due("stays", "a&!a", () -> Check.told(one, one::tellQuestion));
    Check.due("and never fits", 0, one::hits);
  }

  // ---- 29 and 30: none and all

  private static void fitsNoneAndAll() {
    Seekwell none = new Seekwell();
    Check.ask(none, "!a");
    Check.due("hits, no texts", 0, none::hits);
    Check.refused("hitAt 0, no texts", INDEX, none, () -> none.hitAt(0));
    Check.refused("top 1, 0, no texts", INDEX, none, () -> none.top(1, 0));
    Check.refused("fits 0, no texts", NONE, none, () -> none.fits(0));
    Check.due("tagged, no texts", 0, () -> none.tagged('a'));
    Check.due("valued, no texts", 0, () -> none.valued(0, 999));
    int[] having = {0, 1, 23, 24};
    for (int count : having) {
      Seekwell well = full(count);
      Check.ask(well, "a");
      Check.due("hits of " + count, count, well::hits);
      Check.due("the first text, of " + count, count > 0, () -> well.fits(0));
      Check.due("the last text, of " + count, count == 24, () -> well.fits(23));
      Check.refused("one that is not", NONE, well, () -> well.fits(24));
      Check.ask(well, "!a");
      Check.due("hits of the others, " + count, 24 - count, well::hits);
      Check.ask(well, "a|b");
      Check.due("hits of all", 24, well::hits);
      Check.ask(well, "a&b");
      Check.due("hits of none", 0, well::hits);
    }
    Seekwell empty = Check.wellOf("", "|");
    Check.ask(empty, "a|a*|a~|\"a\"|{9 a a}");
    Check.due("texts without words fit none of these", 0, empty::hits);
    Check.ask(empty, "!(a|a*|a~|\"a\"|{9 a a})&[0-1]");
    Check.due("but all else", 2, empty::hits);
  }

  // ---- "a span of values, if its value is not below the first number, and not above the second one"

  private static void spansOfValues() {
    int[] values = {0, 1, 9, 10, 11, 99, 100, 998, 999};
    Seekwell well = new Seekwell();
    for (int value : values) {
      well.add(value, 'a');
    }
    for (int low : values) {
      for (int high : values) {
        int want = 0;
        for (int value : values) {
          want += value >= low && value <= high ? 1 : 0;
        }
        int due = want;
        Check.ask(well, "[" + low + "-" + high + "]");
        Check.due("hits of [" + low + "-" + high + "]", due, well::hits);
        Check.ask(well, "[0-999]");
        Check.due("valued " + low + ", " + high, due, () -> well.valued(low, high));
      }
    }
  }

  // ---- 31: "if there is no such place"

  private static void ranks() {
    for (int count : new int[] {0, 1, 2, 23, 24}) {
      Seekwell well = full(count);
      Check.ask(well, "a");
      for (int rank = 0; rank < count; rank++) {
        int place = rank;
        Check.due("hitAt " + rank + " of " + count, place, () -> well.hitAt(place));
      }
      for (int rank : new int[] {-1, count, count + 1, LEAST, GREATEST}) {
        Check.refused("hitAt " + rank + " of " + count, INDEX, well, () -> well.hitAt(rank));
      }
    }
  }

  // ---- 32: "how many are looked for, 1 to 10", "if there is no such place among these"

  private static void firstOnes() {
    for (int count : new int[] {0, 1, 9, 10, 11, 24}) {
      Seekwell well = full(count);
      Check.ask(well, "a");
      for (int most : new int[] {0, 11, -1, LEAST, GREATEST}) {
        Check.refused("top " + most + ", 0 of " + count, ARGUMENT, well, () -> well.top(most, 0));
        Check.refused("top " + most + ", -1 of " + count, ARGUMENT, well, () -> well.top(most, -1));
        Check.refused("top " + most + ", 24 of " + count, ARGUMENT, well, () -> well.top(most, 24));
      }
      for (int most : new int[] {1, 2, 9, 10}) {
        int among = Math.min(most, count);
        if (among > 0) {
          Check.due("top " + most + ", 0 of " + count, 0, () -> well.top(most, 0));
          Check.due("top " + most + ", the last of " + count, among - 1, () -> well.top(most, among - 1));
        }
        for (int rank : new int[] {-1, among, most, count, LEAST, GREATEST}) {
          if (rank < 0 || rank >= among) {
            Check.refused("top " + most + ", " + rank + " of " + count, INDEX, well, () -> well.top(most, rank));
          }
        }
      }
    }
  }

  // ---- 33: "which have no common divisor above 1", of none, of one and of most

  private static void worth(Seekwell well, String question, int number, String want) {
    Check.ask(well, question);
    Check.put(well, "what was there");
    Check.due(question + " of text " + number, want, () -> Check.told(well, () -> well.tellWorth(number)));
  }

  private static void worths() {
    Seekwell one = Check.wellOf("a");
    worth(one, "a", 0, "1/2");
    worth(one, "b", 0, "0/1");
    worth(one, "!a", 0, "0/1");
    worth(one, "[0-9]", 0, "0/1");
    worth(one, "{0 a a}", 0, "0/1");
    worth(one, "a^2", 0, "1/1");
    worth(one, "a^3", 0, "3/2");
    worth(one, "a|a|a|a", 0, "2/1");
    Seekwell empty = Check.wellOf("", "a|", "|a");
    worth(empty, "a", 0, "0/1");
    worth(empty, "a", 1, "2/1");
    worth(empty, "a", 2, "2/3");
    worth(empty, "<a", 1, "3/1");
    worth(empty, "<a", 2, "0/1");
    worth(empty, ">a", 1, "0/1");
    worth(empty, ">a", 2, "1/1");
    Seekwell full = full(1);
    worth(full, "a", 0, "25/4");
    worth(full, "a", 1, "0/1");
    worth(full, "b", 1, "25/48");
    worth(full, "a|b", 23, "25/48");
    Seekwell wide = Check.wellOf("a ".repeat(80), "a ".repeat(40) + "|" + "a ".repeat(39));
    worth(wide, "a", 0, "80/81");
    worth(wide, "a", 1, "159/80");
    worth(wide, "\"a a\"", 0, "79/81");
    Check.ask(wide, "a");
    Check.put(wide, "kept");
    for (int number : new int[] {-1, 2, 24, LEAST, GREATEST}) {
      Check.refused("tellWorth " + number, NONE, wide, () -> wide.tellWorth(number));
    }
  }

  // ---- 34 and 35: "if there is no such tag", "0 if the least is above the greatest"

  private static void tags() {
    Seekwell well = full(24);
    Check.ask(well, "a");
    for (char tag = 0; tag < 300; tag++) {
      char each = tag;
      boolean isTag = tag >= 'a' && tag <= 'z';
      Object want = isTag ? (Object) (tag <= 'x' ? 1 : 0) : "throws." + ARGUMENT;
      Check.due("tagged " + (int) tag, want, () -> well.tagged(each));
    }
    for (char tag : new char[] {'`', '{', 0, 65535, 256 + 'a'}) {
      Check.refused("tagged " + (int) tag, ARGUMENT, well, () -> well.tagged(tag));
    }
    Seekwell same = new Seekwell();
    for (int i = 0; i < 24; i++) {
      Check.add(same, "a", 0, i < 12 ? 'a' : 'z');
    }
    Check.ask(same, "a");
    Check.due("the first tag", 12, () -> same.tagged('a'));
    Check.due("the last tag", 12, () -> same.tagged('z'));
  }

  private static void values() {
    Seekwell well = new Seekwell();
    for (int value : new int[] {0, 0, 1, 998, 999}) {
      Check.add(well, "a", value, 'a');
    }
    Check.add(well, "b", 0, 'a');
    Check.ask(well, "a");
    int[][] spans = {{0, 0, 2}, {-1, -1, 0}, {-1, 0, 2}, {0, 1, 3}, {1, 0, 0}, {1, 1, 1}, {2, 997, 0}, {998, 999, 2},
        {999, 999, 1}, {1000, 1000, 0}, {999, 1000, 1}, {999, 998, 0}, {0, 999, 5}, {LEAST, GREATEST, 5},
        {GREATEST, LEAST, 0}, {LEAST, -1, 0}, {LEAST, 0, 2}, {1000, GREATEST, 0}, {999, GREATEST, 1},
        {LEAST, LEAST, 0}, {GREATEST, GREATEST, 0}};
    for (int[] span : spans) {
      Check.due("valued " + span[0] + ", " + span[1], span[2], () -> well.valued(span[0], span[1]));
    }
  }

  // ---- 36 and 37: "if there is no such text, or it went, or does not fit", "if no item has a spot there"

  private static void refusesSpan(String named, String exception, Seekwell well, int number) {
    Check.refused("spanBegin, " + named, exception, well, () -> well.spanBegin(number));
    Check.refused("spanLength, " + named, exception, well, () -> well.spanLength(number));
  }

  private static void spansThatAreNot() {
    Seekwell well = Check.wellOf("a|", "b", "a", "");
    Check.ask(well, "a");
    refusesSpan("in the title alone", UNSUPPORTED, well, 0);
    refusesSpan("does not fit", NONE, well, 1);
    Check.due("fits", "0 1", () -> well.spanBegin(2) + " " + well.spanLength(2));
    refusesSpan("without words", NONE, well, 3);
    well.drop(2);
    refusesSpan("went", NONE, well, 2);
    for (int number : new int[] {-1, 4, 24, LEAST, GREATEST}) {
      refusesSpan("text " + number, NONE, well, number);
    }
    Check.ask(well, "!b");
    refusesSpan("behind a '!'", UNSUPPORTED, well, 0);
    refusesSpan("behind a '!', does not fit", NONE, well, 1);
    refusesSpan("behind a '!', without words", UNSUPPORTED, well, 3);
    Check.ask(well, "[0-999]");
    for (int number : new int[] {0, 1, 3}) {
      refusesSpan("no items, " + number, UNSUPPORTED, well, number);
    }
    Check.ask(well, "<a|!a");
    refusesSpan("an item of the title", UNSUPPORTED, well, 0);
    refusesSpan("another one without it", UNSUPPORTED, well, 1);
  }

  private static void span(String text, String question, String want) {
    Seekwell well = Check.wellOf(text);
    Check.ask(well, question);
    Check.due(question + " in '" + text + "'", want, () -> well.spanBegin(0) + " " + well.spanLength(0));
  }

  private static void leastAndGreatestSpans() {
    span("a", "a", "0 1");
    span("x a", "a", "1 1");
    span("b ".repeat(79) + "a", "a", "79 1");
    span("a " + "x ".repeat(78) + "b", "a&b", "0 80");
    span("a " + "b ".repeat(79), "a&b", "0 2");
    span("b ".repeat(79) + "a", "a&b", "78 2");
    span("a b ".repeat(40), "a&b", "0 2");
    span("a ".repeat(80), "\"" + "a ".repeat(40) + "a\"", "0 41");
    span("x|a b|c", "a&b&c", "0 3");
    span("x y a", "a|b", "2 1");
  }

  // ---- 38 and 39: "0 to 3", "how many are saved then", "in place of one", "the sum of 2 to the power of each slot"

  private static void slots() {
    Seekwell well = Check.wellOf("a", "b");
    Check.ask(well, "a");
    Check.put(well, "kept");
    int[] never = {-1, 4, 5, LEAST, GREATEST};
    for (int slot : never) {
      Check.refused("save " + slot, INDEX, well, () -> well.save(slot));
    }
    int[] order = {3, 0, 2, 1};
    for (int i = 0; i < order.length; i++) {
      int slot = order[i];
      Check.due("save " + slot, i + 1, () -> well.save(slot));
      Check.due("save " + slot + " again", i + 1, () -> well.save(slot));
    }
    for (int slot : never) {
      Check.refused("save " + slot + " of four", INDEX, well, () -> well.save(slot));
    }
    Check.due("all four", 15, () -> well.news(0));
    Check.ask(well, "b");
    Check.due("in place of the last one", 4, () -> well.save(3));
    Check.due("three are left", 7, () -> well.news(0));
  }

  private static void news() {
    Seekwell well = Check.wellOf("a", "b", "a b", "");
    String[] questions = {"a", "b", "a&b", "!a"};
    Check.due("none is saved", 0, () -> well.news(0));
    for (int slot = 3; slot >= 0; slot--) {
      Check.ask(well, questions[slot]);
      well.save(slot);
    }
    int[] wants = {1, 10, 7, 8};
    for (int i = 0; i < wants.length; i++) {
      int number = i;
      Check.due("news of " + number, wants[i], () -> well.news(number));
    }
    well.drop(3);
    for (int number : new int[] {3, 4, 23, 24, -1, LEAST, GREATEST}) {
      Check.refused("news " + number, NONE, well, () -> well.news(number));
    }
  }
}
