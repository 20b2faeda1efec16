import java.util.HashMap;
import java.util.Map;
import java.util.regex.Pattern;

/**
 * Promise 26, its fault: "the place, from 0, of the first sign that cannot stand there, or its length, if it ends where
 * it cannot". A sign can stand somewhere just if what is typed up to it can be ended to a question; so this tries all
 * short rows of signs, and all ways in which one of them could be ended. What a question is, patterns tell here.
 */
public final class FaultTest {
  private static final String SIGNS = "a!()|&^<*\"{[-]} 0";
  private static final String ALL_SIGNS = allSigns();
  private static final String FEWER = "a!(|^\")";
  private static final String[] ENDS = {
    "", "a", "1", "\"", " a\"", "a\"", " a}", "a}", " a a}", "a a}", "1 a a}", "}", "1-1]", "-1]", "1]", "]"
  };
  private static final int CALLS = 500;

  private static final String WORD = "[A-Za-z0-9]{1,12}";
  private static final Pattern UNIT = Pattern.compile("(?<!\\^)(\\[[0-9]{1,3}-[0-9]{1,3}\\]|[<>]?("
      + WORD + "[*~]?|\"" + WORD + "( " + WORD + ")*\"|\\{[0-9] " + WORD + "( " + WORD + ")+\\}))");
  /** Stands for a unit; it cannot be typed. */
  private static final String DONE = "\t";
  private static final String TERM = "!?" + DONE + "(\\^[1-9])?";
  private static final Pattern ROW = Pattern.compile(TERM + "([|&]" + TERM + ")*");
  private static final Pattern INNER = Pattern.compile("\\(" + ROW + "\\)");

  private static final Map<String, Boolean> KNOWN = new HashMap<>();
  private static Seekwell well = new Seekwell();
  private static int calls = 0;

  private FaultTest() {
  }

  public static void main(String[] args) {
    tryAll("", SIGNS, 4);
    tryAll("", FEWER, 6);
    String[] aheads = {
      "{0 a", "{0 a a", "[00", "[00-00", "\"a", "\"a a", "(a)^", "(a)^1", "a^1", "aaaaaaaaaaa", "<\"aaaaaaaaaaa",
      "(!(a^1)", "((a&a)|a", "!(a)", "a*", "a~", ">{0 a", "{0 aaaaaaaaaaa", "[0", "[0-0"
    };
    for (String ahead : aheads) {
      tryAll(ahead, SIGNS, 2);
    }
    String[] shortAheads = {
      "", "!", "(", "a", "a^", "a^1", "[", "[1", "[1-", "[1-1", "[1-1]", "{", "{1", "{1 ", "{1 a", "{1 a ", "{1 a a",
      "{1 a a}", "\"", "\"a", "\"a ", "\"a a", "\"a\"", "<", ">", "a*", "a~", "(a", "(a)", "a|", "a&", "a ",
      "aaaaaaaaaaaa"
    };
    for (String ahead : shortAheads) {
      tryAll(ahead, ALL_SIGNS, 1);
    }
    Check.end("FaultTest");
  }

  private static String allSigns() {
    StringBuilder signs = new StringBuilder();
    for (char sign = 32; sign <= 126; sign++) {
      signs.append(sign);
    }
    return signs.toString();
  }

  private static void tryAll(String text, String signs, int left) {
    String want = isQuestion(text) ? "a question" : "a fault at " + faultOf(text);
    Check.due("ask '" + text + "'", want, () -> {
      int answer = ask(text);
      return answer > 0 ? "a question" : "a fault at " + (-1 - answer);
    });
    for (int i = 0; i < signs.length() && left > 0; i++) {
      tryAll(text + signs.charAt(i), signs, left - 1);
    }
  }

  private static int ask(String question) {
    if (calls + question.length() + 2 > CALLS) {
      well = new Seekwell();
      calls = 0;
    }
    calls += question.length() + 2;
    return Check.ask(well, question);
  }

  private static int faultOf(String text) {
    for (int place = 0; place < text.length(); place++) {
      if (!KNOWN.computeIfAbsent(text.substring(0, place + 1), FaultTest::canBeEnded)) {
        return place;
      }
    }
    return text.length();
  }

  private static boolean canBeEnded(String text) {
    for (String end : ENDS) {
      String ended = text + end;
      for (int open = 0; open <= text.length(); open++) {
        if (isQuestion(ended)) {
          return true;
        }
        ended += ')';
      }
    }
    return false;
  }

  private static boolean isQuestion(String text) {
    String left = UNIT.matcher(text).replaceAll(DONE);
    String before = "";
    while (!left.equals(before)) {
      before = left;
      left = INNER.matcher(left).replaceAll(DONE);
    }
    return ROW.matcher(left).matches();
  }
}
