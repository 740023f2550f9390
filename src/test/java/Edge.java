import java.util.function.IntUnaryOperator;

/** What the tests of edges share: lands, texts with the place of their FAULT marked by ^, a picture of an object. */
final class Edge {
  /** By the law without a text it draws 0-1: 4 - 3, 0-2: 4 + 9, 1-3 and 2-3: 5: it goes 0, 2, 3. */
  static final String SMALL = "place 9;place 5;place 5;place 0;ditch 0 1;ditch 0 2;ditch 1 3;ditch 2 3;"
      + "person 2 0;person 3 1;claim 1 0 2;";

  /** Heights 60, 55, .., 5; DITCHES 0 to 10 are a line, 11 to 15 lead 0-2, 0-3, 0-4, 9-11, 8-11; it goes 0 4 5 6 7 8 11. */
  static final String FULL = full();

  /** By this law it goes along the line: 1 to the next number, 0 or less to all others. */
  static final String ALONG = "2*(to-from)-(to-from)*(to-from)";

  private Edge() { }

  private static String full() {
    StringBuilder s = new StringBuilder();
    for (int k = 0; k < 12; k++) s.append("place ").append(60 - 5 * k).append(';');
    for (int k = 0; k < 11; k++) s.append("ditch ").append(k).append(' ').append(k + 1).append(';');
    s.append("ditch 0 2;ditch 0 3;ditch 0 4;ditch 9 11;ditch 8 11;");
    for (int k = 0; k < 5; k++) s.append("person ").append(k + 1).append(' ').append(k).append(';');
    return s.append("person 9 11;").toString();
  }

  /** All that is answered of what a FAULT, a refusal or a question must leave as it was. */
  static String picture(BeliefRiver x) {
    StringBuilder s = new StringBuilder(state(x));
    for (int w = 0; w <= 2; w++) s.append(x.who(w)).append(' ');
    s.append(x.would(7, 5, 3, 2, 4, 9, 8, 1, 2)).append(' ').append(x.told(9)).append(' ').append(x.told(10));
    return s.append(' ').append(x.count(0)).append(' ').append(x.count(2)).toString();
  }

  /** The LAND, all that WORK changes, and where the river goes by it. */
  static String state(BeliefRiver x) {
    StringBuilder s = new StringBuilder();
    for (int w = 0; w <= 8; w++) s.append(x.told(w)).append(' ');
    int places = x.told(0);
    int persons = x.told(2);
    for (int a = 0; a < places; a++) for (int w = 0; w <= 4; w++) s.append(x.place(a, w)).append(' ');
    for (int d = 0; d < x.told(1); d++) for (int w = 0; w <= 3; w++) s.append(x.ditch(d, w)).append(' ');
    for (int p = 0; p < persons; p++) for (int w = 0; w <= 3; w++) s.append(x.person(p, w)).append(' ');
    for (int p = 0; p < persons; p++) for (int a = 0; a < places; a++) s.append(x.belief(p, a)).append(' ');
    for (int a = 0; a < places; a++) for (int b = 0; b < places; b++) s.append(x.pull(a, b)).append(' ');
    return s.toString();
  }

  static void same(String what, String got, String due) {
    Due.is(what + " (" + got + " for " + due + ")", got.equals(due) ? 1 : 0, 1);
  }

  /** An object of which everything is told, for texts that must change nothing. */
  private static BeliefRiver lively() {
    BeliefRiver x = Due.of(SMALL, "fall+belief*3-doubt+dug");
    Due.is("a work", Due.work(x, "walk 0 3;walk 0 1;dig 0 1;day;"), 3);
    Due.is("a book", Due.book(x, "0 2;"), 1);
    Due.is("an image", x.image(), 1);
    return x;
  }

  interface Reading { int read(BeliefRiver x, String text); }

  private static void fails(String name, int kind, String marked, BeliefRiver x, Reading reading) {
    String text = marked.replace("^", "");
    String before = picture(x);
    Due.is(name + " '" + text + "'", reading.read(x, text), kind - 10);
    Due.is("fault of " + name + " '" + text + "'", x.fault(), marked.indexOf('^'));
    same("all stays by " + name + " '" + text + "'", picture(x), before);
    Due.is("the tape is empty behind " + name + " '" + text + "'", x.count(1), 0);
    Due.is("a fault is no refusal", x.status(0) + x.status(1), 0);
  }

  static void landFails(int kind, String marked) { fails("land", kind, marked, lively(), Due::land); }
  static void lawFails(int kind, String marked) { fails("law", kind, marked, lively(), Due::law); }
  static void workFails(int kind, String marked) { fails("work", kind, marked, lively(), Due::work); }
  static void bookFails(int kind, String marked) { fails("book", kind, marked, lively(), Due::book); }

  /** Of the FULL land; its pictures are too many calls for one object. */
  static void workFailsOfFull(int kind, String marked) {
    BeliefRiver x = Due.of(FULL);
    Due.is("work '" + marked + "'", Due.work(x, marked.replace("^", "")), kind - 10);
    Due.is("fault of work '" + marked + "'", x.fault(), marked.indexOf('^'));
    Due.is("none is done by '" + marked + "'", x.count(2), 0);
  }

  static BeliefRiver landIs(int places, String text) {
    BeliefRiver x = new BeliefRiver();
    Due.is("land '" + text + "'", Due.land(x, text), places);
    Due.is("no fault of land '" + text + "'", x.fault(), -1);
    Due.is("told of it", x.told(0), places);
    return x;
  }

  static void lawDraws(int draw, String text) {
    BeliefRiver x = new BeliefRiver();
    Due.is("law '" + text + "'", Due.law(x, text), 1);
    Due.is("no fault of law '" + text + "'", x.fault(), -1);
    Due.is("draw by '" + text + "'", x.would(-7, 11, 12, 3, 4, 13, 14, 5, 6), draw);
  }

  static BeliefRiver workDoes(int done, int refused, String text) {
    BeliefRiver x = Due.of(SMALL);
    workDoes(x, done, refused, text);
    return x;
  }

  static void workDoes(BeliefRiver x, int done, int refused, String text) {
    Due.is("work '" + text + "'", Due.work(x, text), done);
    Due.is("refused by work '" + text + "'", x.told(10), refused);
    Due.is("no fault of work '" + text + "'", x.fault(), -1);
  }

  static BeliefRiver bookHas(int lines, String text) {
    BeliefRiver x = Due.of(SMALL);
    Due.is("book '" + text + "'", Due.book(x, text), lines);
    Due.is("no fault of book '" + text + "'", x.fault(), -1);
    Due.is("told of it", x.told(9), lines);
    return x;
  }

  /** Each call that throws is counted, by its reason, and only it. */
  static void illegal(BeliefRiver x, String what, Due.Call call) {
    int missing = x.status(0);
    int illegal = x.status(1);
    Due.illegal(what, call);
    Due.is(what + " is counted", x.status(0) == missing && x.status(1) == illegal + 1 ? 1 : 0, 1);
  }

  static void missing(BeliefRiver x, String what, Due.Call call) {
    int missing = x.status(0);
    int illegal = x.status(1);
    Due.missing(what, call);
    Due.is(what + " is counted", x.status(0) == missing + 1 && x.status(1) == illegal ? 1 : 0, 1);
  }

  /** The first and the last that are allowed, and what lies beyond them. */
  static void bounds(BeliefRiver x, String what, int least, int most, IntUnaryOperator call) {
    allowed(x, what, least, most, call);
    int[] beyond = {least - 1, most + 1, Integer.MIN_VALUE, Integer.MAX_VALUE};
    for (int v : beyond) illegal(x, what + " " + v, () -> call.applyAsInt(v));
  }

  /** Numbers of PLACES, DITCHES or PERSONS; of call it is asked as it is, of ahead with other wrong parameters. */
  static void members(BeliefRiver x, String what, int many, IntUnaryOperator call, IntUnaryOperator ahead) {
    if (many > 0) allowed(x, what, 0, many - 1, call);
    int[] beyond = {-1, many, Integer.MIN_VALUE, Integer.MAX_VALUE};
    for (int v : beyond) {
      missing(x, what + " " + v, () -> call.applyAsInt(v));
      missing(x, what + " " + v + ", ahead of others", () -> ahead.applyAsInt(v));
    }
  }

  private static void allowed(BeliefRiver x, String what, int least, int most, IntUnaryOperator call) {
    int refused = x.status(0) + x.status(1);
    int[] edges = {least, most};
    for (int v : edges) Due.is(what + " " + v + " is allowed", Due.thrown(() -> call.applyAsInt(v)), 0);
    Due.is(what + ": none is counted", x.status(0) + x.status(1), refused);
  }
}
