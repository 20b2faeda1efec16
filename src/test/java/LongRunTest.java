import java.lang.reflect.InvocationTargetException;
import java.lang.reflect.Method;
import java.util.ArrayList;
import java.util.HashMap;
import java.util.List;
import java.util.Map;

/**
 * Makes runs of 512 calls, as many as an object is used for, and compares each answer with that of the model. Nothing
 * is called between them. What a call puts into the text is often what the next one reads.
 */
public final class LongRunTest {
  private static final int MOST_CALLS = 512;
  private static final String[] WORDS = {
    "a", "b", "c", "ab", "ba", "abc", "acb", "dogs", "dog", "dig", "barked", "barking", "boss", "0", "7", "x9",
    "abcdefghijklm", "abcdefghijks"
  };
  private static final String[] READERS = {
    "add", "add", "revise", "revise", "ask", "ask", "having", "beginning", "slips", "suggest", "packed", "packed"
  };
  private static final Map<String, Method> METHODS = new HashMap<>();
  private static final Map<String, Method> MODELS = new HashMap<>();

  private final Seekwell well = new Seekwell();
  private final Model model = new Model();
  private final List<String> run = new ArrayList<>();
  private final int words;
  private long seed;
  private int calls = 0;
  private boolean isWrong = false;

  private LongRunTest(long number) {
    seed = number * 104729 + 71;
    words = 3 + below(WORDS.length - 2);
  }

  public static void main(String[] args) throws NoSuchMethodException {
    int runs = args.length > 0 ? Integer.parseInt(args[0]) : 400;
    for (Method method : Seekwell.class.getMethods()) {
      if (method.getDeclaringClass() == Seekwell.class) {
        METHODS.put(method.getName(), method);
        MODELS.put(method.getName(), Model.class.getMethod(method.getName(), method.getParameterTypes()));
      }
    }
    int wrong = 0;
    for (int i = 0; i < runs && wrong < 3; i++) {
      LongRunTest test = new LongRunTest(i);
      test.go();
      if (test.isWrong) {
        wrong++;
        System.out.println("run " + i + ": " + String.join(" ", test.run));
      }
    }
    System.out.println("LongRunTest: " + runs + " runs, " + wrong + " wrong");
    if (wrong > 0) {
      System.exit(1);
    }
  }

  private int below(int bound) {
    seed = seed * 6364136223846793005L + 1442695040888963407L;
    return (int) Math.floorMod(seed >>> 33, (long) bound);
  }

  private boolean perhaps(int percent) {
    return below(100) < percent;
  }

  private void go() {
    for (int i = 0; i < 3; i++) {
      type(text());
      call("add", below(1000), tag());
    }
    if (perhaps(30)) {
      ask(longQuestion());
      call("simplify");
      call("tellQuestion");
      read();
    }
    while (calls < MOST_CALLS && !isWrong) {
      step();
    }
  }

  private void step() {
    switch (below(14)) {
      case 0: case 1: case 2:
        type(text());
        call("add", below(1000), tag());
        break;
      case 3:
        type(text());
        call("revise", number());
        break;
      case 4:
        ask(choices(2));
        found();
        break;
      case 5:
        found();
        break;
      case 6:
        call(perhaps(60) ? "simplify" : "tellQuestion");
        read();
        break;
      case 7:
        tell();
        read();
        break;
      case 8:
        parts();
        break;
      case 9:
        packed();
        break;
      case 10:
        call("save", below(5));
        call("news", number());
        call("news", number());
        break;
      case 11:
        whole();
        break;
      case 12:
        type(word());
        call(READERS[6 + below(6)], perhaps(50) ? 0 : below(4));
        read();
        break;
      default:
        rest();
        break;
    }
  }

  // ---- kinds of steps

  private void found() {
    call("hits");
    call("hitAt", below(4));
    call("top", 1 + below(10), below(4));
    int number = number();
    call("fits", number);
    call("spanBegin", number);
    call("spanLength", number);
    if (perhaps(30)) {
      call("tagged", tag());
      call("valued", below(1000), below(1000));
    }
    if (perhaps(30)) {
      call("tellWorth", number);
      call("checksum");
    }
  }

  /** Puts something into the text. */
  private void tell() {
    switch (below(5)) {
      case 0:
        call("tellWord", number(), perhaps(30), below(5));
        break;
      case 1:
        call("tellOf", below(12));
        break;
      case 2:
        call("tellWorth", number());
        break;
      case 3:
        type(word());
        call("suggest");
        break;
      default:
        call("tellQuestion");
        break;
    }
  }

  /** Reads the text as it stands, whatever it is. */
  private void read() {
    if (perhaps(20)) {
      call("signAt", below(200));
    }
    if (perhaps(20)) {
      call("type", "sa|&*~ ".charAt(below(7)));
    }
    if (perhaps(70)) {
      call(READERS[below(READERS.length)], perhaps(60) ? 0 : below(6));
    }
    if (perhaps(20)) {
      call("checksum");
    }
  }

  private void parts() {
    if (perhaps(60)) {
      call("seal");
    } else {
      call("join", below(4));
    }
    call("parts");
    call("partSize", below(5));
  }

  private void packed() {
    type(WORDS[below(words)]);
    int part = perhaps(70) ? below(2) : below(9) - 1;
    call("packed", part);
    int bytes = 3 + below(8);
    for (int i = 0; i < bytes; i++) {
      call("byteAt", i);
    }
    if (perhaps(40)) {
      call("join", part);
      type(WORDS[below(words)]);
      call("packed", part);
      call("byteAt", below(9));
    }
  }

  private void whole() {
    if (perhaps(60)) {
      call("write");
      call("writtenAt", below(60));
    }
    if (perhaps(30)) {
      call("reread");
    }
    call("likeness", number(), number());
    call("isSound");
  }

  private void rest() {
    int number = number();
    call("length", number);
    call("value", number);
    call("tag", number);
    call("isThere", number);
    if (perhaps(25)) {
      call("drop", number);
    }
    call("texts");
    call("words");
    if (perhaps(20)) {
      call("erase");
    }
  }

  // ---- the calls

  private void type(String signs) {
    for (char sign : signs.toCharArray()) {
      call("type", sign);
    }
  }

  private void ask(String question) {
    if (perhaps(80)) {
      call("erase");
    }
    type(question);
    call("ask");
  }

  /** Makes a call on both; a reader takes as many of the arguments as it has. */
  private void call(String name, Object... given) {
    if (isWrong || calls >= MOST_CALLS) {
      return;
    }
    calls++;
    Object[] arguments = given;
    if (name.equals("add") && given.length == 1) {
      arguments = new Object[] {given[0], 'm'};
    } else if (METHODS.get(name).getParameterCount() == 0) {
      arguments = new Object[0];
    }
    Object want = answer(MODELS.get(name), model, arguments);
    Object got = answer(METHODS.get(name), well, arguments);
    run.add(name + java.util.Arrays.toString(arguments) + "=" + got);
    if (!want.equals(got)) {
      isWrong = true;
      run.add("\n  due is " + want);
    }
  }

  private static Object answer(Method method, Object of, Object[] arguments) {
    try {
      return method.invoke(of, arguments);
    } catch (InvocationTargetException e) {
      return "throws." + e.getCause().getClass().getSimpleName();
    } catch (IllegalAccessException e) {
      throw new IllegalStateException(e);
    }
  }

  // ---- what is typed

  private int number() {
    return perhaps(95) ? below(5) : below(30) - 3;
  }

  private char tag() {
    return (char) ('a' + below(4));
  }

  private String word() {
    String word = WORDS[below(words)];
    if (perhaps(80)) {
      return word;
    }
    int place = below(word.length());
    return word.substring(0, place) + (perhaps(50) ? "c" : "") + word.substring(place + below(2));
  }

  private String text() {
    StringBuilder text = new StringBuilder(perhaps(70) ? word() : "");
    for (int i = 0; i < 5 && perhaps(75); i++) {
      text.append(perhaps(15) ? "|" : " ").append(word());
    }
    return text.toString();
  }

  /** A question that is made longer than what can be typed. */
  private String longQuestion() {
    StringBuilder all = new StringBuilder("!(");
    for (int i = 0; i < 60 && all.length() < 150; i++) {
      all.append(i > 0 ? "|" : "").append((char) ('a' + below(26)));
      if (perhaps(80)) {
        all.append('&').append((char) ('a' + below(26)));
      }
    }
    return all.append(')').toString();
  }

  private String choices(int depth) {
    StringBuilder all = new StringBuilder(terms(depth));
    while (perhaps(35) && all.length() < 60) {
      all.append('|').append(terms(depth));
    }
    return all.toString();
  }

  private String terms(int depth) {
    StringBuilder all = new StringBuilder(term(depth));
    while (perhaps(35) && all.length() < 60) {
      all.append('&').append(term(depth));
    }
    return all.toString();
  }

  private String term(int depth) {
    String not = perhaps(20) ? "!" : "";
    String weight = perhaps(15) ? "^" + below(10) : "";
    boolean isRow = depth > 0 && perhaps(35);
    return not + (isRow ? "(" + choices(depth - 1) + ")" : unit()) + weight;
  }

  private String unit() {
    String where = perhaps(12) ? "<" : perhaps(14) ? ">" : "";
    String word = WORDS[below(words)];
    String other = WORDS[below(words)];
    switch (below(9)) {
      case 0:
        return where + word + "*";
      case 1:
        return where + word + "~";
      case 2:
        return where + "\"" + word + (perhaps(70) ? " " + other : "") + "\"";
      case 3:
        return where + "{" + below(4) + " " + word + " " + other + "}";
      case 4:
        return "[" + below(1000) + "-" + below(1000) + "]";
      default:
        return where + word;
    }
  }
}
