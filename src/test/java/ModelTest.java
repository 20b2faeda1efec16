import java.lang.reflect.InvocationTargetException;
import java.lang.reflect.Method;
import java.util.HashMap;
import java.util.Map;
import java.util.TreeMap;

/**
 * Makes long runs of calls, always the same ones, on the class and on the model of the document, and compares all
 * answers, exceptions and texts.
 */
public final class ModelTest {
  private static final String[] WORDS = {
    "dog", "Dogs", "dig", "dogged", "digging", "a", "b", "c", "d", "e", "ab", "ba", "abc", "acb", "sss", "boss",
    "asses", "0", "7", "12", "abcdefghijkl", "abcdefghijklm", "abcdefghijks", "runnings", "red", "shed", "sheds",
    "king", "kings", "doing", "doings", "bed", "beds", "ed", "ing", "x1"
  };
  private static final String[] GAPS = {" ", " ", " ", " ", ", ", "-", "|", " | ", "."};
  private static final Map<String, Method> METHODS = new HashMap<>();
  private static final Map<String, Method> MODELS = new HashMap<>();
  private static final Map<String, Integer> ANSWERS = new TreeMap<>();

  private final Seekwell well = new Seekwell();
  private final Model model = new Model();
  private final StringBuilder run = new StringBuilder();
  private long seed;
  private int words;
  private boolean isWrong;

  private ModelTest(long seed) {
    this.seed = seed * 7919 + 13;
    this.words = 4 + below(WORDS.length - 3);
  }

  public static void main(String[] args) throws NoSuchMethodException {
    int runs = args.length > 0 ? Integer.parseInt(args[0]) : 1000;
    for (Method method : Seekwell.class.getMethods()) {
      if (method.getDeclaringClass() == Seekwell.class) {
        METHODS.put(method.getName(), method);
        MODELS.put(method.getName(), Model.class.getMethod(method.getName(), method.getParameterTypes()));
      }
    }
    int wrong = 0;
    for (int i = 0; i < runs && wrong < 5; i++) {
      ModelTest test = new ModelTest(i);
      test.go(40 + test.below(60));
      if (test.isWrong) {
        wrong++;
        System.out.println("run " + i + ": " + test.run);
      }
    }
    for (String name : METHODS.keySet()) {
      if (!ANSWERS.containsKey(name)) {
        System.out.println("no run called " + name);
        wrong++;
      }
    }
    if (args.length > 1) {
      System.out.println(ANSWERS);
    }
    System.out.println("ModelTest: " + runs + " runs, " + wrong + " wrong");
    if (wrong > 0) {
      System.exit(1);
    }
  }

  private int below(int bound) {
    seed = seed * 6364136223846793005L + 1442695040888963407L;
    return (int) Math.floorMod(seed >>> 33, (long) bound);
  }

  private boolean perhaps(int percent) {
    return below(100) < percent;
  }

  // ---- the calls

  private void go(int steps) {
    for (int i = 0; i < steps && !isWrong; i++) {
      step();
      if (perhaps(20)) {
        call("checksum");
      }
    }
    call("isSound");
  }

  private void many() {
    for (int i = 0; i < 9; i++) {
      put(text());
      call("add", i, 'c');
      call("seal");
    }
    for (int i = 0; i < 9; i++) {
      call("partSize", i);
      put(word());
      call("packed", i);
    }
  }

  private void step() {
    switch (below(24)) {
      case 0: case 1: case 2: case 3:
        put(text());
        call("add", perhaps(95) ? below(40) : below(1100) - 50, (char) ((perhaps(95) ? 'a' : 'X') + below(5)));
        break;
      case 4:
        if (perhaps(80)) {
          put(text());
        }
        call("revise", number());
        break;
      case 5:
        if (perhaps(50)) {
          call("drop", number());
        }
        call("texts");
        call("isThere", number());
        break;
      case 6:
        int number = number();
        call("length", number);
        call("value", number);
        call("tag", number);
        call("tellWord", number, perhaps(50), below(7) - 1);
        break;
      case 7:
        call("words");
        call("tellOf", below(20) - 1);
        perhapsUseTold();
        break;
      case 8: case 9:
        put(perhaps(90) ? word() : text());
        call(new String[] {"having", "beginning", "slips", "suggest"}[below(4)]);
        break;
      case 10:
        call("parts");
        call("partSize", below(10) - 1);
        if (perhaps(60)) {
          call("seal");
        } else {
          call("join", below(8) - 1);
        }
        if (perhaps(5)) {
          many();
        }
        break;
      case 11:
        put(perhaps(95) ? word() : text());
        call("packed", perhaps(80) ? 0 : below(9) - 1);
        for (int i = -1; i < 12; i++) {
          call("byteAt", i);
        }
        break;
      case 12:
        whole();
        break;
      case 13:
        call("likeness", number(), number());
        call("signAt", below(6) - 1);
        call("erase");
        break;
      case 14:
        if (perhaps(30)) {
          call("type", (char) below(200));
        }
        if (perhaps(60)) {
          call("save", below(6) - 1);
        }
        call("news", number());
        break;
      default:
        question();
        break;
    }
  }

  private void whole() {
    if (perhaps(50)) {
      call("write");
      call("writtenAt", below(40) - 1);
      call("writtenAt", below(400));
    }
    if (perhaps(30)) {
      call("reread");
    }
  }

  /** Uses what a call put into the text, which can be longer than what can be typed. */
  private void perhapsUseTold() {
    int way = below(6);
    if (way == 0) {
      call("add", below(40), (char) ('a' + below(5)));
    } else if (way == 1) {
      call("ask");
    } else if (way == 2) {
      call("type", '|');
    } else if (way == 3) {
      call("slips");
    }
  }

  private void question() {
    if (perhaps(60)) {
      String signs = choices(3);
      for (int i = 0; i < 8 && signs.length() > 160; i++) {
        signs = choices(2);
      }
      put(perhaps(80) ? signs : spoiled(signs));
      call("ask");
    }
    if (perhaps(25)) {
      call("simplify");
    }
    if (perhaps(30)) {
      call("tellQuestion");
      perhapsUseTold();
    }
    call("hits");
    for (int i = -1; i < 4; i++) {
      call("hitAt", i);
      call("top", below(12), i);
    }
    int number = number();
    call("fits", number);
    call("tellWorth", number);
    call("spanBegin", number);
    call("spanLength", number);
    call("tagged", (char) ((perhaps(95) ? 'a' : 'Z') + below(5)));
    call("valued", below(42) - 1, below(42) - 1);
  }

  private void put(String signs) {
    call("erase");
    for (char sign : signs.toCharArray()) {
      call("type", sign);
    }
  }

  private void call(String name, Object... arguments) {
    if (isWrong) {
      return;
    }
    Object want = answer(model, name, arguments);
    Object got = answer(well, name, arguments);
    ANSWERS.merge(name, 1, Integer::sum);
    if (want.toString().startsWith("throws.")) {
      ANSWERS.merge(name + " " + want, 1, Integer::sum);
    }
    if (!name.equals("type") || !(got instanceof Integer)) {
      run.append(name).append(java.util.Arrays.toString(arguments)).append('=').append(got).append("; ");
    } else {
      run.append(arguments[0]);
    }
    // A sign that is typed changes nothing but the text, which the next call compares.
    boolean isTyped = name.equals("type");
    String wantText = isTyped ? "" : text(model);
    String gotText = isTyped ? "" : text(well);
    if (!want.equals(got) || !wantText.equals(gotText)) {
      isWrong = true;
      run.append("\n  due is ").append(want).append(" with text '").append(wantText).append("', not '")
          .append(gotText).append("'");
    }
  }

  private static String text(Object of) {
    if (of instanceof Seekwell) {
      return Check.text((Seekwell) of);
    }
    StringBuilder signs = new StringBuilder();
    for (int i = 0;; i++) {
      try {
        signs.append(((Model) of).signAt(i));
      } catch (IndexOutOfBoundsException e) {
        return signs.toString();
      }
    }
  }

  private static Object answer(Object of, String name, Object[] arguments) {
    try {
      return (of instanceof Model ? MODELS : METHODS).get(name).invoke(of, arguments);
    } catch (InvocationTargetException e) {
      return "throws." + e.getCause().getClass().getSimpleName();
    } catch (ReflectiveOperationException e) {
      throw new IllegalStateException(e);
    }
  }

  // ---- what is typed

  private int number() {
    return perhaps(95) ? below(6) : below(30) - 2;
  }

  private String word() {
    String word = WORDS[below(words)];
    return perhaps(10) ? spoiled(word) : word;
  }

  private String text() {
    StringBuilder text = new StringBuilder();
    int size = below(9);
    for (int i = 0; i < size; i++) {
      if (i > 0) {
        text.append(GAPS[below(GAPS.length)]);
      }
      text.append(word());
    }
    return text.length() > 160 ? text.substring(0, 160) : text.toString();
  }

  private String spoiled(String signs) {
    String all = " !\"&()*-019<>AZ[]^az{|}~,";
    int place = below(signs.length() + 1);
    String put = perhaps(70) ? String.valueOf(all.charAt(below(all.length()))) : "";
    int behind = perhaps(50) ? place : Math.min(signs.length(), place + 1 + below(3));
    String made = signs.substring(0, place) + put + signs.substring(behind);
    return made.length() > 160 ? made.substring(0, 160) : made;
  }

  private String choices(int depth) {
    StringBuilder all = new StringBuilder(terms(depth));
    for (int i = 0; i < 3 && perhaps(40); i++) {
      all.append('|').append(terms(depth));
    }
    return all.toString();
  }

  private String terms(int depth) {
    StringBuilder all = new StringBuilder(term(depth));
    for (int i = 0; i < 3 && perhaps(40); i++) {
      all.append('&').append(term(depth));
    }
    return all.toString();
  }

  private String term(int depth) {
    String not = perhaps(20) ? "!" : "";
    String weight = perhaps(20) ? "^" + (1 + below(9)) : "";
    if (depth > 0 && perhaps(40)) {
      return not + "(" + choices(depth - 1) + ")" + weight;
    }
    return not + unit() + weight;
  }

  private String questionWord() {
    String word = WORDS[below(words)];
    return word.length() > 12 ? word.substring(0, 12) : word;
  }

  private String unit() {
    String where = perhaps(15) ? "<" : perhaps(15) ? ">" : "";
    switch (below(10)) {
      case 0:
        return where + questionWord() + "*";
      case 1:
        return where + questionWord() + "~";
      case 2: {
        StringBuilder phrase = new StringBuilder(where + "\"" + questionWord());
        for (int i = 0; i < 2 && perhaps(70); i++) {
          phrase.append(' ').append(questionWord());
        }
        return phrase.append('"').toString();
      }
      case 3: {
        StringBuilder near = new StringBuilder(where + "{" + below(10) + " " + questionWord() + " " + questionWord());
        for (int i = 0; i < 2 && perhaps(40); i++) {
          near.append(' ').append(questionWord());
        }
        return near.append('}').toString();
      }
      case 4:
        return "[" + (perhaps(20) ? "0" : "") + below(40) + "-" + below(60) + "]";
      default:
        return where + questionWord();
    }
  }
}
