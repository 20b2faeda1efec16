/** Promises 38 and 39: save, news. */
public final class SavedTest {
  public static void main(String[] args) {
    saving();
    reports();
    wrongCalls();
    Check.end("SavedTest");
  }

  private static void saving() {
    Seekwell well = Check.wellOf("a b", "b", "c");
    Check.ask(well, "a");
    Check.put(well, "kept");
    Check.due("save 2", 1, () -> well.save(2));
    Check.due("the text stays", "kept", () -> Check.text(well));
    Check.due("save 2 again", 1, () -> well.save(2));
    Check.due("save 0", 2, () -> well.save(0));
    Check.due("save 3", 3, () -> well.save(3));
    Check.due("save 1", 4, () -> well.save(1));
    Check.due("save 1 again", 4, () -> well.save(1));
    Check.due("all of them", 15, () -> well.news(0));
    Check.due("none of them", 0, () -> well.news(1));
    Check.ask(well, "b");
    Check.due("another one is asked, not saved", 15, () -> well.news(0));
    Check.due("in place of one", 4, () -> well.save(1));
    Check.due("news of the new one", 2, () -> well.news(1));
    Check.due("that of before is still asked", "b", () -> Check.told(well, well::tellQuestion));
  }

  private static void reports() {
    Seekwell well = Check.wellOf("a b", "b", "c");
    Check.due("nothing is saved", 0, () -> well.news(0));
    String[] questions = {"a", "b", "!(!c)", "[1-2]&!\"a b\""};
    for (int slot = 0; slot < questions.length; slot++) {
      Check.ask(well, questions[slot]);
      well.save(slot);
    }
    Check.put(well, "kept");
    Check.due("news 0", 3, () -> well.news(0));
    Check.due("news 1", 10, () -> well.news(1));
    Check.due("news 2", 12, () -> well.news(2));
    Check.due("the text stays", "kept", () -> Check.text(well));
    well.simplify();
    Check.due("what is asked is made simpler, not what is saved", 12, () -> well.news(2));
    Check.due("a new text", 3, () -> Check.add(well, "a c", 2, 'a'));
    Check.due("its news", 13, () -> well.news(3));
    Check.put(well, "b c");
    well.revise(3);
    Check.due("its news behind a revision", 14, () -> well.news(3));
    Check.due("at a fault", -1, well::ask);
    Check.due("news stay", 14, () -> well.news(3));
    Check.ask(well, "x|y|z&(x|y)");
    well.simplify();
    Check.due("news stay behind another question", 14, () -> well.news(3));
    Check.ask(well, "!(a|b)^3");
    well.save(0);
    well.simplify();
    Check.due("a simpler one fits the same", "0 10 13", () -> well.news(0) - 2 + " " + well.news(1) + " "
        + well.news(2));
  }

  private static void wrongCalls() {
    Seekwell well = Check.wellOf("a", "b");
    Check.refused("save of nothing", "IllegalStateException", well, () -> well.save(0));
    Check.refused("save of nothing, and no slot", "IllegalStateException", well, () -> well.save(4));
    Check.ask(well, "a");
    Check.due("save 0", 1, () -> well.save(0));
    Check.ask(well, "b");
    Check.refused("save 4", "IndexOutOfBoundsException", well, () -> well.save(4));
    Check.refused("save -1", "IndexOutOfBoundsException", well, () -> well.save(-1));
    Check.refused("save greatest", "IndexOutOfBoundsException", well, () -> well.save(Integer.MAX_VALUE));
    Check.due("that of before is saved", 1, () -> well.news(0));
    well.drop(1);
    Check.refused("news of one that went", "NoSuchElementException", well, () -> well.news(1));
    Check.refused("news 2", "NoSuchElementException", well, () -> well.news(2));
    Check.refused("news -1", "NoSuchElementException", well, () -> well.news(-1));
    Check.refused("news of a new well", "NoSuchElementException", new Seekwell(), () -> new Seekwell().news(0));
  }
}
