import java.util.NoSuchElementException;

/** What the tests share: texts are fed as bytes, answers are held against those that are due. */
final class Due {
  interface Call { long answer(); }

  private static int wrong = 0;
  private static int asked = 0;
  private static String sentence = "";

  private Due() { }

  static void is(String what, long got, long due) {
    asked++;
    if (got == due) return;
    wrong++;
    System.out.println((sentence.isEmpty() ? "" : "[" + sentence + "] ") + what + " answered " + got + ", due is " + due);
  }

  /** What is wrong from here on is told with this sentence of the document. */
  static void under(String aSentence) { sentence = aSentence; }

  static void missing(String what, Call call) { is(what + " throws (1 NoSuchElementException)", thrown(call), 1); }

  static void illegal(String what, Call call) { is(what + " throws (2 IllegalArgumentException)", thrown(call), 2); }

  static int thrown(Call call) {
    try {
      call.answer();
      return 0;
    } catch (NoSuchElementException e) {
      return e.getClass() == NoSuchElementException.class ? 1 : 3;
    } catch (IllegalArgumentException e) {
      return e.getClass() == IllegalArgumentException.class ? 2 : 3;
    }
  }

  /** The bytes behind the text, up to the twentieth, are a sign that can stand nowhere. */
  static void feed(BeliefRiver x, String text) {
    for (int k = 0; k < text.length(); k += 20) {
      int[] v = new int[5];
      for (int j = 0; j < 20; j++) v[j / 4] = v[j / 4] << 8 | (k + j < text.length() ? text.charAt(k + j) : '#');
      x.feed(v[0], v[1], v[2], v[3], v[4]);
    }
  }

  static int land(BeliefRiver x, String text) { feed(x, text); return x.land(text.length()); }
  static int law(BeliefRiver x, String text) { feed(x, text); return x.law(text.length()); }
  static int work(BeliefRiver x, String text) { feed(x, text); return x.work(text.length()); }
  static int book(BeliefRiver x, String text) { feed(x, text); return x.book(text.length()); }

  static BeliefRiver of(String land) {
    BeliefRiver x = new BeliefRiver();
    is("land of '" + land + "' has no fault", land(x, land) >= 0 ? 1 : 0, 1);
    return x;
  }

  static BeliefRiver of(String land, String law) {
    BeliefRiver x = of(land);
    is("law '" + law + "'", law(x, law), 1);
    return x;
  }

  static void end(String name) {
    System.out.println(name + ": " + asked + " answers, " + wrong + " wrong");
    if (wrong != 0) System.exit(1);
  }
}
