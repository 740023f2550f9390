/** The edges of IMAGES and of what is counted: promises 35 to 38. */
final class KeepEdges {
  private KeepEdges() { }

  static void run() {
    images();
    fullImages();
    restoring();
    restoringAll();
    statuses();
    counts();
  }

  private static void images() {
    Sentences.hold("An IMAGE of all that WORK changes, and of WORKS that can be undone: how many there are; -1: there are 3.");
    BeliefRiver x = Due.of(Edge.SMALL);
    Due.work(x, "day;walk 0 0;");
    String before = Edge.picture(x);
    for (int k = 1; k <= 3; k++) Due.is("image", x.image(), k);
    Due.is("a fourth", x.image(), -1);
    Due.is("still three", x.count(0), 3);
    Edge.same("nothing else is changed", Edge.picture(x), before.replaceFirst(" 0 1$", " 3 1"));
    Due.is("it is no refusal", x.status(0) + x.status(1), 0);
    Due.work(x, "dig 0 1;");
    Due.is("a fourth", x.image(), -1);
    Due.is("restore", x.restore(), 2);
    Due.is("the fourth was not kept", x.ditch(0, 2), 0);
    Due.is("there is room for one", x.image(), 3);
    Due.is("and no more", x.image(), -1);
    Due.is("an image of nothing", new BeliefRiver().image(), 1);
  }

  private static void fullImages() {
    BeliefRiver x = Due.of(Edge.FULL + "claim 5 11 9;claim 0 0 1;");
    for (int k = 0; k < 16; k++) Due.is("work", Due.work(x, k == 7 ? "tell 5 11 10;dig 8 11;walk 5 10;day;" : "day;") > 0 ? 1 : 0, 1);
    Due.is("image", x.image(), 1);
    for (int k = 15; k >= 0; k--) Due.is("undo", x.undo(), k);
    Due.is("work", Due.work(x, "forget 0 0;dig 0 1;again 3[dig 9 11;];walk 0 1;tell 5 10 9;"), 7);
    for (int k = 1; k < 16; k++) Due.is("work", Due.work(x, k % 2 == 1 ? "walk 0 0;tell 5 11 8;" : "walk 0 1;forget 5 11;"), 2);
    Due.is("restore", x.restore(), 0);
    Due.is("sixteen works", x.count(2), 16);
    Due.is("a 17th", Due.work(x, "day;"), -20);
    for (int k = 15; k >= 0; k--) {
      Due.is("belief", x.belief(5, 11), k >= 7 ? 10 : 9);
      Due.is("dug", x.ditch(15, 2) * 100 + x.ditch(14, 2) * 10 + x.ditch(0, 2), k >= 7 ? 100 : 0);
      Due.is("where", x.person(5, 1) * 10 + x.person(0, 1), k >= 7 ? 100 : 110);
      Due.is("undo", x.undo(), k);
      Due.is("day", x.told(3), k);
    }
    Due.is("the claim", x.belief(0, 0), 1);
  }

  private static void restoring() {
    Sentences.hold("All that is as in the latest IMAGE, which is gone: how many are left; -1: there is none.");
    BeliefRiver x = Due.of(Edge.SMALL);
    Due.is("none", x.restore(), -1);
    String[] texts = {"day;", "tell 0 0 1;walk 1 3;", "dig 0 1;dig 2 3;again 2[day;];"};
    String[] states = new String[3];
    for (int k = 0; k < 3; k++) {
      Due.is("no fault", Due.work(x, texts[k]) > 0 ? 1 : 0, 1);
      states[k] = Edge.state(x);
      Due.is("image", x.image(), k + 1);
    }
    Due.work(x, "forget 0 0;again 3[dig 0 2;];walk 0 2;");
    for (int k = 2; k >= 0; k--) {
      Due.is("restore", x.restore(), k);
      Edge.same("as in image " + k, Edge.state(x), states[k]);
      Due.is("its works", x.count(2), k + 1);
      Due.is("its images are those that are left", x.count(0), k);
    }
    Due.is("none", x.restore(), -1);
    Edge.same("nothing is changed", Edge.state(x), states[0]);
    Due.is("it is no refusal", x.status(0) + x.status(1), 0);
  }

  private static void restoringAll() {
    BeliefRiver x = Due.of(Edge.SMALL);
    Due.work(x, "day;");
    Due.is("image", x.image(), 1);
    Due.is("undo", x.undo(), 0);
    Due.is("image of no works", x.image(), 2);
    Due.work(x, "dig 0 1;");
    Due.work(x, "dig 0 1;");
    Due.is("restore", x.restore(), 1);
    Due.is("no works", x.undo(), -1);
    Due.is("day 0", x.told(3), 0);
    Due.law(x, "7");
    Due.book(x, "0 1;");
    Due.feed(x, "day;");
    Due.is("restore", x.restore(), 0);
    Due.is("day 1", x.told(3), 1);
    Due.is("neither law", x.pull(0, 1), 7);
    Due.is("nor book", x.told(9), 1);
    Due.is("nor tape", x.count(1), 20);
    Due.is("undo", x.undo(), 0);
    Due.is("day 0", x.told(3), 0);
    Due.is("what it was ahead of the work", x.ditch(0, 2), 0);
    BeliefRiver y = Due.of(Edge.SMALL);
    Due.is("image", y.image(), 1);
    Due.is("a land ends it", Due.land(y, Edge.SMALL), 4);
    Due.is("none", y.restore(), -1);
    Due.is("image", y.image(), 1);
    Due.is("a fault in a land does not", Due.land(y, "x"), -9);
    Due.is("restore", y.restore(), 0);
  }

  private static void statuses() {
    Sentences.hold("How many calls were refused: 0 NoSuchElementException, 1 IllegalArgumentException; NONE for others.");
    BeliefRiver x = Due.of(Edge.SMALL);
    for (int k = 0; k < 5; k++) {
      Due.is("missing", x.status(0), k);
      Due.is("illegal", x.status(1), 2 * k);
      Due.missing("place", () -> x.place(4, 9));
      Due.illegal("told", () -> x.told(11));
      Due.illegal("land", () -> x.land(601));
    }
    for (int w : new int[] {-1, 2, 3, Integer.MIN_VALUE, Integer.MAX_VALUE}) Due.is("status " + w, x.status(w), -1);
    Due.is("these are no refusals", x.status(0) * 100 + x.status(1), 510);
    Sentences.hold("(No IMAGE keeps it.)");
    x.image();
    Due.missing("person", () -> x.person(2, 0));
    Due.illegal("course", () -> x.course(-1));
    x.restore();
    Due.is("counted on", x.status(0) * 100 + x.status(1), 611);
    Due.work(x, "day;");
    x.undo();
    Due.is("nor is it undone", x.status(0) * 100 + x.status(1), 611);
    Due.land(x, Edge.SMALL);
    Due.is("nor does a land end it", x.status(0) * 100 + x.status(1), 611);
  }

  private static void counts() {
    Sentences.hold("0 IMAGES, 1 bytes of the TAPE, 2 WORKS that can be undone; NONE for others.");
    BeliefRiver x = Due.of(Edge.SMALL);
    for (int w = 0; w < 3; w++) Due.is("none", x.count(w), 0);
    for (int k = 1; k <= 16; k++) {
      Due.is("work", Due.work(x, ""), 0);
      Due.is("works", x.count(2), k);
    }
    Due.is("a 17th", Due.work(x, ""), -20);
    Due.is("works", x.count(2), 16);
    for (int k = 1; k <= 4; k++) {
      x.image();
      Due.is("images", x.count(0), Math.min(k, 3));
    }
    for (int k = 1; k <= 31; k++) {
      x.feed(0, 0, 0, 0, 0);
      Due.is("bytes", x.count(1), Math.min(20 * k, 600));
    }
    for (int w : new int[] {-1, 3, 4, Integer.MIN_VALUE, Integer.MAX_VALUE}) Due.is("count " + w, x.count(w), -1);
    Due.is("these are no refusals", x.status(0) + x.status(1), 0);
    Due.is("a land", x.land(0), 0);
    for (int w = 0; w < 3; w++) Due.is("none", x.count(w), 0);
  }
}
