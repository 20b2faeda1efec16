import java.util.ArrayList;
import java.util.List;

/** What the tests share: they note each answer that is not due, and end with exit code 1 if there was one. */
final class Check {
  private static int wrong = 0;
  private static int checks = 0;

  private Check() {
  }

  interface Call {
    Object answer();
  }

  /** Notes the answer of a call, or throws.Name if it throws. */
  static void due(String what, Object want, Call call) {
    checks++;
    Object got = answerOf(call);
    Object wanted = want instanceof Integer ? Long.valueOf((Integer) want) : want;
    if (!wanted.equals(got)) {
      wrong++;
      System.out.println(what + " answered " + got + ", due is " + wanted);
    }
  }

  static Object answerOf(Call call) {
    try {
      Object got = call.answer();
      return got instanceof Integer ? Long.valueOf((Integer) got) : got;
    } catch (RuntimeException e) {
      // The machine's own words for a division; its other exceptions have names of their own.
      boolean isMachines = "/ by zero".equals(e.getMessage());
      return (isMachines ? "the machine throws." : "throws.") + e.getClass().getSimpleName();
    }
  }

  /** Puts a text in place of what the text was, sign by sign. */
  static void put(Seekwell well, String text) {
    well.erase();
    for (char sign : text.toCharArray()) {
      well.type(sign);
    }
  }

  /** The text as it stands. */
  static String text(Seekwell well) {
    StringBuilder signs = new StringBuilder();
    for (int place = 0;; place++) {
      try {
        signs.append(well.signAt(place));
      } catch (IndexOutOfBoundsException e) {
        return signs.toString();
      }
    }
  }

  /** The answer of a call that puts signs into the text, and the text, which must be as long. */
  static String told(Seekwell well, Call call) {
    Object got = answerOf(call);
    String text = text(well);
    return got.equals((long) text.length()) ? text : got + " but '" + text + "'";
  }

  static int add(Seekwell well, String text, int value, char tag) {
    put(well, text);
    return well.add(value, tag);
  }

  static int ask(Seekwell well, String question) {
    put(well, question);
    return well.ask();
  }

  /** A well with these texts; the value of each is its number, its tag the letter of its number. */
  static Seekwell wellOf(String... texts) {
    Seekwell well = new Seekwell();
    for (int i = 0; i < texts.length; i++) {
      add(well, texts[i], i, (char) ('a' + i));
    }
    return well;
  }

  /** The greatest number of a text that there is, or -1. */
  static int last(Seekwell well) {
    int last = 23;
    while (last >= 0 && !well.isThere(last)) {
      last--;
    }
    return last;
  }

  /** The bytes that are told at places from 0 on. */
  static List<Integer> bytes(java.util.function.IntUnaryOperator at) {
    List<Integer> bytes = new ArrayList<>();
    for (int i = 0;; i++) {
      try {
        bytes.add(at.applyAsInt(i));
      } catch (IndexOutOfBoundsException e) {
        return bytes;
      }
    }
  }

  /** All that can be seen of a well; what it takes to see it is put back. */
  static String state(Seekwell well) {
    StringBuilder state = new StringBuilder();
    state.append(well.checksum()).append(' ').append(bytes(well::byteAt)).append(bytes(well::writtenAt));
    state.append(' ').append(well.parts()).append(' ').append(well.words()).append(' ').append(text(well)).append(' ');
    state.append(answerOf(well::hits));
    for (int number = 0; number < 24; number++) {
      int each = number;
      state.append(' ').append(answerOf(() -> well.news(each))).append(answerOf(() -> well.fits(each)));
    }
    String text = text(well);
    if (text.length() <= 160) {
      state.append(' ').append(told(well, well::tellQuestion));
      put(well, text);
    }
    return state.toString();
  }

  /** A call that throws this exception, and changes nothing. */
  static void refused(String what, String exception, Seekwell well, Call call) {
    String before = state(well);
    due(what, "throws." + exception, call);
    String after = state(well);
    due(what + " changes nothing", before, () -> after);
  }

  static void end(String test) {
    System.out.println(test + ": " + checks + " checks, " + wrong + " wrong");
    if (wrong > 0 || checks == 0) {
      System.exit(1);
    }
  }
}
