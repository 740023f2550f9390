/** The edges of what is told of the land and of the day: promises 9 to 16 and 30 to 32. */
final class TellEdges {
  private TellEdges() { }

  static void run() {
    tolds();
    refusedSteps();
    otherWhats();
    places();
    missingOnes();
    ditches();
    persons();
    beliefs();
    pulls();
    woulds();
    courses();
    rights();
    blanks();
    uphills();
  }

  /** All that six PERSONS can believe of twelve PLACES: from each on to the next, from the last back. */
  static BeliefRiver devout() {
    BeliefRiver x = Due.of(Edge.FULL, Edge.ALONG);
    for (int p = 0; p < 6; p++) {
      StringBuilder s = new StringBuilder();
      for (int a = 0; a < 12; a++) s.append("tell ").append(p).append(' ').append(a).append(' ').append(a < 11 ? a + 1 : 10).append(';');
      Due.is("twelve tells", Due.work(x, s.toString()), 12);
    }
    return x;
  }

  private static void tolds() {
    Sentences.hold("0 PLACES, 1 DITCHES, 2 PERSONS, 3 the DAY, 4 the PLACE of the spring (0 without), 5 PLACES of the COURSE (how many), 6 these as bits, "
        + "7 where it ENDS (NONE: no COURSE), 8 what is believed in all (each P and A), 9 lines of the BOOK, 10 STEPS REFUSED by the latest WORK "
        + "(0 ahead of any, behind undo(), restore()).");
    all(new BeliefRiver(), 0, 0, 0, 0, 0, 0, 0, -1, 0, 0, 0);
    all(Due.of("place 9;"), 1, 0, 0, 0, 0, 1, 1, 0, 0, 0, 0);
    all(Due.of(Edge.FULL), 12, 16, 6, 0, 0, 7, 2545, 11, 0, 0, 0);
    all(Due.of(Edge.FULL + "spring 11;"), 12, 16, 6, 0, 11, 1, 2048, 11, 0, 0, 0);
    all(Due.of(Edge.FULL, Edge.ALONG), 12, 16, 6, 0, 0, 12, 4095, 11, 0, 0, 0);
    BeliefRiver x = devout();
    Due.book(x, "0 1;11 10;");
    Due.work(x, "day;day;again 4[walk 0 0;];");
    all(x, 12, 16, 6, 2, 0, 12, 4095, 11, 72, 2, 4);
  }

  private static void all(BeliefRiver x, int... due) {
    for (int w = 0; w < due.length; w++) Due.is("told " + w, x.told(w), due[w]);
  }

  private static void refusedSteps() {
    BeliefRiver x = Due.of(Edge.SMALL);
    Due.is("ahead of any", x.told(10), 0);
    Edge.workDoes(x, 0, 2, "walk 0 0;walk 1 1;");
    Edge.workDoes(x, 0, 1, "walk 0 0;");
    Edge.workDoes(x, 0, 0, "");
    Edge.workDoes(x, 1, 3, "again 2[walk 0 0;];day;walk 0 0;");
    Due.is("a fault is no work", Due.work(x, "walk 0 0;x"), -9);
    Due.is("so it stays", x.told(10), 3);
    x.image();
    Due.law(x, "1");
    Due.book(x, "0 1;");
    Due.is("it stays by all other calls", x.told(10), 3);
    Due.is("undo", x.undo(), 3);
    Due.is("behind undo()", x.told(10), 0);
    Edge.workDoes(x, 0, 2, "walk 0 0;walk 1 1;");
    Due.is("restore", x.restore(), 0);
    Due.is("behind restore()", x.told(10), 0);
  }

  private static void otherWhats() {
    Sentences.hold("IllegalArgumentException: another what (so below).");
    BeliefRiver x = Due.of(Edge.SMALL);
    Edge.bounds(x, "told", 0, 10, w -> x.told(w));
    Edge.bounds(x, "place", 0, 4, w -> x.place(3, w));
    Edge.bounds(x, "ditch", 0, 3, w -> x.ditch(3, w));
    Edge.bounds(x, "person", 0, 3, w -> x.person(1, w));
    Edge.bounds(x, "ahead", 0, 1, w -> x.ahead(9, w));
    Edge.bounds(x, "tellings", 0, 1, w -> x.tellings(1, 3, w));
    Edge.bounds(x, "who", 0, 2, w -> x.who(w));
    Edge.bounds(x, "look", 0, 1, w -> x.look(w));
    Edge.bounds(x, "meet", 0, 1, w -> x.meet(0, 1, w));
    Edge.bounds(x, "seen", 0, 1, w -> (int) x.seen(2, 3, w));
    Edge.bounds(x, "leaders", 0, 2, w -> x.leaders(9, w));
    Edge.bounds(x, "right", 0, 1, w -> x.right(3, w));
    Edge.bounds(x, "blank", 0, 1, w -> x.blank(w));
    Edge.bounds(x, "year", 0, 3, w -> x.year(1, 9, 9, w));
    Edge.bounds(x, "span", 0, 2, w -> x.span(1, 2, 9, 9, w, 3));
    BeliefRiver y = new BeliefRiver();
    Edge.bounds(y, "told of nothing", 0, 10, w -> y.told(w));
    Edge.bounds(y, "ahead of nothing", 0, 1, w -> y.ahead(9, w));
    Edge.bounds(y, "who of nothing", 0, 2, w -> y.who(w));
    Edge.bounds(y, "look of nothing", 0, 1, w -> y.look(w));
    Edge.bounds(y, "leaders of nothing", 0, 2, w -> y.leaders(9, w));
    Edge.bounds(y, "blank of nothing", 0, 1, w -> y.blank(w));
    Edge.bounds(y, "year of nothing", 0, 3, w -> y.year(1, 9, 9, w));
  }

  private static void places() {
    Sentences.hold("Of a PLACE: 0 HEIGHT, 1 PLACES to which a DITCH leads (bits), 2 PERSONS there (bits), 3 where the river would go on from it "
        + "(by the greatest DRAW; NONE: nowhere), 4 the how manieth of the COURSE it is (from 0 on; NONE).");
    BeliefRiver x = Due.of(Edge.FULL);
    int[][] due = {
      {60, 30, 1, 4, 0}, {55, 5, 2, 2, -1}, {50, 11, 4, 3, -1}, {45, 21, 8, 4, -1}, {40, 41, 16, 5, 1}, {35, 80, 0, 6, 2},
      {30, 160, 0, 7, 3}, {25, 320, 0, 8, 4}, {20, 2688, 0, 11, 5}, {15, 3328, 0, 11, -1}, {10, 2560, 0, 11, -1}, {5, 1792, 32, -1, 6}};
    for (int a = 0; a < 12; a++) for (int w = 0; w < 5; w++) Due.is("place " + a + " " + w, x.place(a, w), due[a][w]);
    Due.work(x, "walk 5 8;walk 4 3;");
    Due.is("one more is there", x.place(3, 2), 24);
    Due.is("none is there", x.place(11, 2) + x.place(4, 2), 0);
    Due.is("the last is there", x.place(8, 2), 32);
    BeliefRiver y = Due.of("place 1;" + "person 1 0;".repeat(6));
    Due.is("all six", y.place(0, 2), 63);
    Due.is("no ditch", y.place(0, 1), 0);
    Due.is("nowhere", y.place(0, 3), -1);
    Due.is("the first", y.place(0, 4), 0);
    BeliefRiver z = Due.of(Edge.FULL, Edge.ALONG);
    for (int a = 0; a < 12; a++) Due.is("the how manieth " + a, z.place(a, 4), a);
    Due.law(z, "1-from");
    for (int a = 0; a < 12; a++) Due.is("of two, no more " + a, z.place(a, 4), a < 2 ? a : -1);
  }

  private static void missingOnes() {
    Sentences.hold("NoSuchElementException: no such PLACE, DITCH, PERSON (so below, ahead of others).");
    String[] lands = {Edge.SMALL, Edge.FULL, "", "place 1;"};
    int[][] many = {{4, 4, 2}, {12, 16, 6}, {0, 0, 0}, {1, 0, 0}};
    for (int k = 0; k < lands.length; k++) {
      missingOnes(Due.of(lands[k]), many[k][0], many[k][1], many[k][2]);
      missingPairs(Due.of(lands[k]), many[k][0], many[k][2]);
      if (many[k][0] > 0) missingPlaces(Due.of(lands[k]), many[k][0]);
      if (many[k][2] > 0) missingPersons(Due.of(lands[k]), many[k][0], many[k][2]);
    }
    missingPairs(new BeliefRiver(), 0, 0);
  }

  private static void missingOnes(BeliefRiver x, int places, int ditches, int persons) {
    Edge.members(x, "place", places, a -> x.place(a, 4), a -> x.place(a, 5));
    Edge.members(x, "ditch", ditches, d -> x.ditch(d, 3), d -> x.ditch(d, -1));
    Edge.members(x, "person", persons, p -> x.person(p, 3), p -> x.person(p, 4));
    Edge.members(x, "silence", places, a -> x.silence(a), a -> x.silence(a));
    Edge.members(x, "right", places, a -> x.right(a, 1), a -> x.right(a, 2));
    Edge.members(x, "share", persons, p -> x.share(p, 1, 9), p -> x.share(p, 64, 100));
  }

  private static void missingPlaces(BeliefRiver x, int places) {
    int last = places - 1;
    Edge.members(x, "pull from", places, a -> x.pull(a, last), a -> x.pull(a, places));
    Edge.members(x, "pull to", places, a -> x.pull(last, a), a -> x.pull(-1, a));
    Edge.members(x, "digs from", places, a -> x.digs(a, last), a -> x.digs(a, places));
    Edge.members(x, "digs to", places, a -> x.digs(last, a), a -> x.digs(-1, a));
    Edge.members(x, "way from", places, a -> x.way(a, last), a -> x.way(a, places));
    Edge.members(x, "way to", places, a -> x.way(last, a), a -> x.way(-1, a));
  }

  private static void missingPersons(BeliefRiver x, int places, int persons) {
    int last = persons - 1;
    Edge.members(x, "belief of", persons, p -> x.belief(p, 0), p -> x.belief(p, places));
    Edge.members(x, "belief about", places, a -> x.belief(last, a), a -> x.belief(persons, a));
    Edge.members(x, "tellings of", persons, p -> x.tellings(p, 0, 0), p -> x.tellings(p, 0, 2));
    Edge.members(x, "tellings for", places, a -> x.tellings(last, a, 0), a -> x.tellings(last, a, -1));
    Edge.members(x, "meet one", persons, p -> x.meet(p, last, 0), p -> x.meet(p, last, 2));
    Edge.members(x, "meet other", persons, p -> x.meet(last, p, 0), p -> x.meet(last, p, -1));
  }

  private static void missingPairs(BeliefRiver x, int places, int persons) {
    Edge.missing(x, "pull of none", () -> x.pull(places, places));
    Edge.missing(x, "digs of none", () -> x.digs(places, 0));
    Edge.missing(x, "way of none", () -> x.way(0, places));
    Edge.missing(x, "belief of none", () -> x.belief(persons, 0));
    Edge.missing(x, "tellings of none", () -> x.tellings(persons, places, 2));
    Edge.missing(x, "meet of none", () -> x.meet(persons, persons, 2));
  }

  private static void ditches() {
    Sentences.hold("Of a DITCH: 0 A, 1 B, 2 how often it was dug, 3 on how many days it ran there.");
    BeliefRiver x = Due.of(Edge.FULL);
    Due.work(x, "again 2[dig 11 8;day;];dig 0 1;day;");
    int[][] due = {{0, 1, 1, 0}, {10, 11, 0, 0}, {0, 4, 0, 3}, {9, 11, 0, 0}, {8, 11, 2, 3}};
    int[] which = {0, 10, 13, 14, 15};
    for (int k = 0; k < 5; k++) for (int w = 0; w < 4; w++) Due.is("ditch " + which[k] + " " + w, x.ditch(which[k], w), due[k][w]);
    BeliefRiver y = Due.of("place 5;place 3;ditch 1 0;");
    Due.is("as it was told", y.ditch(0, 0) * 10 + y.ditch(0, 1), 10);
    Due.work(y, "day;");
    Due.is("ran from B to A, too", y.ditch(0, 3), 1);
  }

  private static void persons() {
    Sentences.hold("Of a PERSON: 0 TRUST, 1 the PLACE, 2 of how many PLACES it believes anything, 3 of how many of these it is so.");
    BeliefRiver x = devout();
    for (int p = 0; p < 6; p++) {
      Due.is("trust " + p, x.person(p, 0), p < 5 ? p + 1 : 9);
      Due.is("where " + p, x.person(p, 1), p < 5 ? p : 11);
      Due.is("of all", x.person(p, 2), 12);
      Due.is("of all but the last it is so", x.person(p, 3), 11);
    }
    Due.work(x, "forget 5 0;forget 5 11;tell 5 1 0;");
    Due.is("of ten", x.person(5, 2), 10);
    Due.is("of nine it is so", x.person(5, 3), 9);
    Due.is("of another's as ahead", x.person(4, 2) * 100 + x.person(4, 3), 1211);
    BeliefRiver y = Due.of(Edge.FULL);
    for (int p = 0; p < 6; p++) Due.is("of none", y.person(p, 2) + y.person(p, 3), 0);
    // By where it would go on from each place, whether the COURSE comes there or not; where it goes nowhere none is right.
    BeliefRiver z = Due.of(Edge.FULL + "claim 5 1 2;claim 5 11 8;claim 4 1 2;", "fall");
    Due.is("of one of two", z.person(5, 2) * 10 + z.person(5, 3), 21);
    Due.is("of one", z.person(4, 2) * 10 + z.person(4, 3), 11);
  }

  private static void beliefs() {
    Sentences.hold("Where a PERSON believes that it goes from a PLACE; NONE: nothing.");
    BeliefRiver x = devout();
    for (int p = 0; p < 6; p++) for (int a = 0; a < 12; a++) Due.is("belief " + p + " " + a, x.belief(p, a), a < 11 ? a + 1 : 10);
    Due.work(x, "forget 5 11;forget 0 0;");
    Due.is("nothing", x.belief(5, 11), -1);
    Due.is("nothing", x.belief(0, 0), -1);
    Due.is("no less of others", x.told(8), 70);
    BeliefRiver y = Due.of("place 1;place 1;ditch 0 1;person 1 0;claim 0 1 0;");
    Due.is("that it goes to 0", y.belief(0, 1), 0);
  }

  private static void pulls() {
    Sentences.hold("DRAW of the DITCH from one PLACE to another; -100: there is none between.");
    BeliefRiver x = Due.of(Edge.FULL);
    Due.is("0 4", x.pull(0, 4), 20);
    Due.is("4 0", x.pull(4, 0), -20);
    Due.is("8 11", x.pull(8, 11), 15);
    Due.is("11 8", x.pull(11, 8), -15);
    Due.is("none 7 11", x.pull(7, 11), -100);
    Due.is("none 0 11", x.pull(0, 11), -100);
    for (int a = 0; a < 12; a++) Due.is("none from a place to itself", x.pull(a, a), -100);
    Due.law(x, "0-999");
    Due.is("a draw is -99 at least", x.pull(0, 4), -99);
  }

  private static void woulds() {
    Sentences.hold("DRAW by the LAW for such fall (-60 to 60), belief (0 to 54), doubt (0 to 54), near (0 to 6), dug (0 to 9), ran (0 to 999), day (0 to 500), from, to (0 to 11).");
    String[] words = {"fall", "belief", "doubt", "near", "dug", "ran", "day", "from", "to"};
    int[] least = {-60, 0, 0, 0, 0, 0, 0, 0, 0};
    int[] most = {60, 54, 54, 6, 9, 999, 500, 11, 11};
    for (int k = 0; k < 9; k++) {
      int w = k;
      BeliefRiver x = new BeliefRiver();
      Edge.bounds(x, "would " + words[k], least[k], most[k], v -> would(x, w, v));
      Due.law(x, words[k] + "-" + Math.max(0, most[k] - 90));
      Due.is("the most of " + words[k], would(x, k, most[k]), Math.min(90, most[k]));
      Due.law(x, words[k]);
      Due.is("the least of " + words[k], would(x, k, least[k]), least[k]);
    }
    BeliefRiver y = Due.of(Edge.SMALL, "belief+doubt");
    Due.is("of no land", y.would(0, 54, 45, 0, 0, 0, 0, 11, 11), 99);
    Due.is("and nothing is changed", y.pull(0, 1), 3);
  }

  private static int would(BeliefRiver x, int which, int value) {
    int[] v = new int[9];
    v[which] = value;
    return x.would(v[0], v[1], v[2], v[3], v[4], v[5], v[6], v[7], v[8]);
  }

  private static void courses() {
    Sentences.hold("The k-th PLACE of the COURSE (from 0 on); NONE: there are not so many.");
    BeliefRiver x = Due.of(Edge.FULL);
    int[] due = {0, 4, 5, 6, 7, 8, 11, -1, -1};
    for (int k = 0; k < due.length; k++) Due.is("course " + k, x.course(k), due[k]);
    for (int k : new int[] {11, 12, 13, 1000, Integer.MAX_VALUE}) Due.is("course " + k, x.course(k), -1);
    BeliefRiver y = Due.of(Edge.FULL, Edge.ALONG);
    for (int k = 0; k < 12; k++) Due.is("course " + k, y.course(k), k);
    Due.is("course 12", y.course(12), -1);
    Due.is("none of nothing", new BeliefRiver().course(0), -1);
    Sentences.hold("IllegalArgumentException: k below 0.");
    Edge.illegal(x, "course -1", () -> x.course(-1));
    Edge.illegal(x, "course far below", () -> x.course(Integer.MIN_VALUE));
    BeliefRiver z = new BeliefRiver();
    Edge.illegal(z, "course -1 of nothing", () -> z.course(-1));
  }

  private static void rights() {
    Sentences.hold("PERSONS (bits) who believe of a PLACE that it goes on as it does (by the greatest DRAW); those who believe anything else of it (what 1).");
    BeliefRiver x = devout();
    for (int a = 0; a < 12; a++) {
      Due.is("right " + a, x.right(a, 0), a < 11 ? 63 : 0);
      Due.is("else " + a, x.right(a, 1), a < 11 ? 0 : 63);
    }
    Due.work(x, "tell 5 1 0;tell 0 8 11;forget 4 1;tell 2 9 8;");
    Due.is("right 1", x.right(1, 0), 15);
    Due.is("else 1", x.right(1, 1), 32);
    Due.is("right 8", x.right(8, 0), 62);
    Due.is("else 8", x.right(8, 1), 1);
    Due.is("right 9", x.right(9, 0), 59);
    Due.is("else 9", x.right(9, 1), 4);
    BeliefRiver y = Due.of(Edge.FULL);
    Due.is("nobody", y.right(3, 0) + y.right(3, 1), 0);
    BeliefRiver z = Due.of("place 5;place 5;place 5;ditch 0 1;ditch 1 2;person 1 0;person 1 0;claim 0 1 0;claim 1 1 2;", "1");
    Due.is("also where it would go back", z.right(1, 0), 1);
    Due.is("and else", z.right(1, 1), 2);
  }

  private static void blanks() {
    Sentences.hold("The most trusted PERSON who believes nothing (what 0), of alike ones the first, its TRUST (1); NONE both: there is none.");
    BeliefRiver x = Due.of(Edge.FULL);
    blank(x, 5, 9);
    Due.work(x, "tell 5 11 10;");
    blank(x, 4, 5);
    Due.work(x, "tell 4 0 1;tell 3 0 1;tell 2 0 1;tell 1 0 1;");
    blank(x, 0, 1);
    Due.work(x, "tell 0 11 10;");
    blank(x, -1, -1);
    Due.work(x, "forget 3 0;");
    blank(x, 3, 4);
    blank(Due.of("place 1;" + "person 7 0;".repeat(6)), 0, 7);
    blank(Due.of("place 1;person 1 0;person 8 0;person 8 0;person 7 0;"), 1, 8);
    blank(Due.of("place 1;"), -1, -1);
    blank(new BeliefRiver(), -1, -1);
  }

  private static void blank(BeliefRiver x, int person, int trust) {
    Due.is("blank", x.blank(0), person);
    Due.is("its trust", x.blank(1), trust);
  }

  private static void uphills() {
    Sentences.hold("PLACES (bits) from which the river would go on to higher ones.");
    BeliefRiver x = Due.of(Edge.FULL);
    Due.is("none", x.uphill(), 0);
    Due.law(x, "0-fall");
    Due.is("all but the highest", x.uphill(), 4094);
    Due.law(x, "1-fall*(1-least[from,1])"); // from 0 by 1 - fall, below 0; from all others alike, to the least place
    Due.is("all but the first", x.uphill(), 4094);
    BeliefRiver y = Due.of("place 3;place 4;ditch 0 1;", "1");
    Due.is("from the first, not back", y.uphill(), 1);
    Due.is("level is not higher", Due.of("place 3;place 3;ditch 0 1;", "1").uphill(), 0);
    Due.is("lower neither", Due.of("place 4;place 3;ditch 0 1;", "fall").uphill(), 0);
    Due.is("whether it comes there or not", Due.of("place 3;place 3;place 4;ditch 1 2;", "to/2").uphill(), 2);
    Due.is("none of nothing", new BeliefRiver().uphill(), 0);
  }
}
