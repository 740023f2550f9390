/** The edges of the second part of the terms: the COURSE and the STEPS; and promise 8. */
final class DayEdges {
  private static final String FORK = "place 0;place 0;place 0;ditch 0 2;ditch 0 1;";

  private DayEdges() { }

  static void run() {
    firstDay();
    courses();
    ends();
    inOrder();
    twoHundred();
    tells();
    forgets();
    walks();
    digs();
    days();
    learning();
    undoing();
  }

  private static void firstDay() {
    Sentences.hold("It is DAY 0 at first, nothing was dug, it ran nowhere; PERSONS believe what is claimed.");
    BeliefRiver x = Due.of(Edge.FULL + "claim 5 11 10;claim 0 0 1;");
    Due.is("work", Due.work(x, "again 2[day;again 2[dig 8 11;];];dig 0 1;walk 5 10;tell 4 4 3;forget 0 0;"), 10);
    Due.is("land", Due.land(x, Edge.FULL + "claim 5 11 10;claim 0 0 1;"), 12);
    Due.is("the day", x.told(3), 0);
    for (int d = 0; d < 16; d++) Due.is("dug and ran " + d, x.ditch(d, 2) + x.ditch(d, 3), 0);
    for (int p = 0; p < 6; p++) {
      for (int a = 0; a < 12; a++) Due.is("belief " + p + " " + a, x.belief(p, a), p == 5 && a == 11 ? 10 : p == 0 && a == 0 ? 1 : -1);
    }
    Due.is("where", x.person(5, 1), 11);
  }

  private static void courses() {
    Sentences.hold("The COURSE: it begins in the PLACE of the spring;");
    BeliefRiver x = Due.of(Edge.FULL + "spring 11;");
    Due.is("the last place", x.course(0), 11);
    Due.is("which is all", x.course(1), -1);
    Due.is("a place alone", Due.of("place 5;").course(0), 0);
    Due.is("along all places", Due.of(Edge.FULL, Edge.ALONG).told(6), 4095);
    Due.is("all twelve", Due.of(Edge.FULL, Edge.ALONG).told(5), 12);
    Due.is("to the last", Due.of(Edge.FULL, Edge.ALONG).told(7), 11);
    Sentences.hold("from each PLACE it goes on along the DITCH of the greatest DRAW from there (of alike ones to the least PLACE), if that is above 0, to the PLACE there;");
    goesOn(1, "1");
    goesOn(1, "2-to/2");
    goesOn(2, "1+to/2");
    goesOn(1, "99");
    goesOn(1, "98+to"); // 99 and 100: of more than 99 nothing is left
    goesOn(2, "97+to"); // 98 and 99
    goesOn(-1, "0");
    goesOn(-1, "0-1");
    goesOn(1, "3-2*to");
    goesOn(2, "2*to-3");
    goesOn(-1, "to-2");
    goesOn(2, "to-1");
    BeliefRiver y = Due.of(Edge.FULL, "to");
    Due.is("to the greatest of five", y.place(0, 3), 4);
    Due.is("to the last place", y.place(8, 3), 11);
    Due.law(y, "12-to");
    Due.is("to the least of four", y.place(0, 3), 1);
    Due.is("to the first place", y.place(4, 3), 0);
    Due.is("to the least of three", y.place(11, 3), 8);
  }

  private static void goesOn(int due, String law) {
    BeliefRiver x = Due.of(FORK, law);
    Due.is("goes on by " + law, x.place(0, 3), due);
    Due.is("course by " + law, x.course(1), due);
  }

  private static void ends() {
    Sentences.hold("it ENDS where no DRAW is above 0, or where it would go on to a PLACE it came to ahead (without PLACES it has none).");
    Due.is("no ditch", Due.of("place 5;").told(7), 0);
    Due.is("no draw above 0", Due.of("place 5;place 5;ditch 0 1;").told(7), 0);
    Due.is("a draw of 1", Due.of("place 5;place 4;ditch 0 1;").told(7), 1);
    BeliefRiver x = Due.of("place 5;place 5;ditch 0 1;", "1");
    Due.is("back to the spring", x.told(7), 1);
    Due.is("it would go on", x.place(1, 3), 0);
    Due.is("two places", x.told(5), 2);
    // 0, 1, 2, 3 and from 3 back to 1.
    BeliefRiver y = Due.of("place 5;place 5;place 5;place 5;ditch 0 1;ditch 1 2;ditch 2 3;ditch 3 1;", Edge.ALONG + "+from/3*(20-10*to)");
    Due.is("back to a later one", y.told(7), 3);
    Due.is("it would go on to 1", y.place(3, 3), 1);
    Due.is("four places", y.told(5), 4);
    // In the greater draw it came to ahead: the lesser one is not taken instead.
    BeliefRiver z = Due.of("place 5;place 5;place 5;ditch 0 1;ditch 1 2;", "2-to/2");
    Due.is("no other is taken", z.told(6), 3);
    Due.is("though it draws", z.pull(1, 2), 1);
    BeliefRiver none = new BeliefRiver();
    Due.is("none", none.told(5) + none.told(6), 0);
    Due.is("nowhere", none.told(7), -1);
    Due.is("nothing", none.course(0), -1);
  }

  private static void inOrder() {
    Sentences.hold("STEPS are done in order; one that can't be done is REFUSED, and changes nothing;");
    BeliefRiver x = Edge.workDoes(2, 0, "walk 0 1;walk 0 3;");
    Due.is("0, 1, 3", x.person(0, 1), 3);
    x = Edge.workDoes(1, 1, "walk 0 3;walk 0 1;");
    Due.is("not 0, 3", x.person(0, 1), 1);
    x = Edge.workDoes(2, 0, "tell 0 0 1;tell 0 0 2;");
    Due.is("the later", x.belief(0, 0), 2);
    x = Due.of(Edge.SMALL);
    Due.is("nine times", Due.work(x, "again 9[dig 0 1;];"), 9);
    String before = Edge.state(x);
    Edge.workDoes(x, 0, 6, "tell 1 0 2;forget 1 1;walk 1 1;walk 1 2;dig 0 1;dig 1 0;");
    Edge.same("nothing is changed", Edge.state(x), before);
    x = Edge.workDoes(3, 1, "again 2[dig 0 1;walk 0 2;];");
    Due.is("what follows a refused one is done", x.ditch(0, 2), 2);
  }

  private static void twoHundred() {
    Sentences.hold("200 STEPS at most are begun by one WORK (an again, too, each time it is come to; REFUSED ones, too), what would come behind is left out.");
    // 1 + 39 * 5 are 196.
    days(198, "again 39[day;day;day;day;day;];day;day;day;");
    days(199, "again 39[day;day;day;day;day;];day;day;day;day;");
    days(199, "again 39[day;day;day;day;day;];day;day;day;day;day;");
    days(199, "again 40[day;day;day;day;day;];");
    days(199, "again 39[day;day;day;day;day;];day;day;day;day;again 9[day;];");
    days(198, "again 39[day;day;day;day;day;];day;day;day;again 9[day;];");
    days(198, "again 39[day;day;day;day;day;];day;day;day;again 0[];day;");
    // 3 * 61 are 183: an again in an again counts each time, also one of nothing.
    days(16, "again 60[again 0[];];again 60[again 0[];];again 60[again 0[];];" + "day;".repeat(16));
    days(17, "again 60[again 0[];];again 60[again 0[];];again 60[again 0[];];" + "day;".repeat(17));
    days(17, "again 60[again 0[];];again 60[again 0[];];again 60[again 0[];];" + "day;".repeat(18));
    days(0, "again 60[again 60[again 60[];];];day;");
    // 1 + 33 * 6 are 199.
    days(165, "again 33[again 5[day;];];");
    days(166, "again 33[again 5[day;];];day;");
    days(166, "again 33[again 5[day;];];day;day;");
    BeliefRiver x = Due.of(Edge.SMALL);
    Edge.workDoes(x, 0, 180, "again 60[walk 0 0;walk 0 0;walk 0 0;];");
    Edge.workDoes(x, 0, 199, "again 50[walk 0 0;walk 0 0;walk 0 0;walk 0 0;];day;");
    Edge.workDoes(x, 3, 196, "again 49[walk 0 0;walk 0 0;walk 0 0;walk 0 0;];day;day;day;");
    Edge.workDoes(x, 3, 196, "again 49[walk 0 0;walk 0 0;walk 0 0;walk 0 0;];day;day;day;day;");
    Edge.workDoes(x, 0, 189, "again 20[again 20[walk 0 0;];];day;");
    Edge.workDoes(x, 3, 0, "day;day;day;");
  }

  private static void days(int due, String text) {
    BeliefRiver x = Edge.workDoes(due, 0, text);
    Due.is("days by '" + text + "'", x.told(3), due);
  }

  private static void tells() {
    Sentences.hold("tell: P believes that it goes from A to B, and nothing else of A (REFUSED, if P does already).");
    BeliefRiver x = Edge.workDoes(1, 0, "tell 0 0 1;");
    Due.is("belief", x.belief(0, 0), 1);
    Edge.workDoes(x, 0, 1, "tell 0 0 1;");
    Edge.workDoes(x, 1, 0, "tell 0 0 2;");
    Due.is("nothing else of it", x.belief(0, 0), 2);
    Due.is("it is one belief", x.person(0, 2), 1);
    Edge.workDoes(x, 1, 0, "tell 0 0 1;");
    Edge.workDoes(x, 0, 1, "tell 1 0 2;");
    Edge.workDoes(x, 1, 0, "tell 0 3 1;");
    Due.is("of another place, too", x.person(0, 2), 2);
    BeliefRiver y = Due.of(Edge.FULL);
    Edge.workDoes(y, 1, 1, "tell 5 11 10;tell 5 11 10;");
    Due.is("the last of the last", y.belief(5, 11), 10);
    Due.is("no other", y.told(8), 1);
  }

  private static void forgets() {
    Sentences.hold("forget: P believes nothing of A (REFUSED, if P does not).");
    BeliefRiver x = Edge.workDoes(1, 0, "forget 1 0;");
    Due.is("belief", x.belief(1, 0), -1);
    Edge.workDoes(x, 0, 3, "forget 1 0;forget 0 0;forget 1 3;");
    Edge.workDoes(x, 2, 1, "tell 1 0 1;forget 1 0;forget 1 0;");
    BeliefRiver y = Due.of(Edge.FULL + "claim 5 11 10;claim 5 10 11;claim 4 11 10;");
    Edge.workDoes(y, 1, 1, "forget 5 11;forget 5 11;");
    Due.is("of another place it stays", y.belief(5, 10), 11);
    Due.is("of another person, too", y.belief(4, 11), 10);
    Due.is("the last of the last", y.belief(5, 11), -1);
  }

  private static void walks() {
    Sentences.hold("walk: P is in A (REFUSED, if no DITCH is between where P is and A).");
    BeliefRiver x = Edge.workDoes(1, 0, "walk 0 2;");
    Due.is("where", x.person(0, 1), 2);
    Edge.workDoes(x, 0, 1, "walk 0 2;");
    Edge.workDoes(x, 0, 1, "walk 0 1;");
    Due.is("where", x.person(0, 1), 2);
    Edge.workDoes(x, 1, 0, "walk 0 0;");
    Due.is("both ways", x.person(0, 1), 0);
    Due.is("the other stays", x.person(1, 1), 1);
    BeliefRiver y = Due.of(Edge.FULL);
    Edge.workDoes(y, 2, 2, "walk 5 7;walk 5 8;walk 5 11;walk 5 11;");
    Due.is("the last", y.person(5, 1), 11);
  }

  private static void digs() {
    Sentences.hold("dig: the DITCH is dug once more, 9 times at most (REFUSED, if it was dug 9 times).");
    BeliefRiver x = Edge.workDoes(8, 0, "again 4[dig 0 1;dig 1 0;];");
    Due.is("eight", x.ditch(0, 2), 8);
    Edge.workDoes(x, 1, 0, "dig 0 1;");
    Due.is("nine", x.ditch(0, 2), 9);
    Edge.workDoes(x, 0, 2, "dig 0 1;dig 1 0;");
    Due.is("nine", x.ditch(0, 2), 9);
    Edge.workDoes(x, 1, 0, "dig 0 2;");
    Due.is("another", x.ditch(1, 2), 1);
    BeliefRiver y = Due.of(Edge.FULL);
    Edge.workDoes(y, 9, 3, "again 6[dig 8 11;dig 11 8;];");
    Due.is("the last", y.ditch(15, 2), 9);
    Due.is("no other", y.ditch(14, 2) + y.ditch(10, 2), 0);
  }

  private static BeliefRiver atDay499() {
    BeliefRiver x = Due.of(Edge.SMALL);
    Due.is("work", Due.work(x, "again 39[day;day;day;day;day;];"), 195);
    Due.is("work", Due.work(x, "again 39[day;day;day;day;day;];"), 195);
    Due.is("work", Due.work(x, "again 54[day;day;];day;"), 109);
    Due.is("day 499", x.told(3), 499);
    return x;
  }

  private static void days() {
    Sentences.hold("day (REFUSED on DAY 500): along each DITCH of the COURSE it ran one day more;");
    BeliefRiver x = atDay499();
    Edge.workDoes(x, 1, 0, "day;");
    Due.is("day 500", x.told(3), 500);
    Due.is("ran", x.ditch(1, 3), 500);
    Edge.workDoes(x, 0, 1, "day;");
    Edge.workDoes(x, 1, 3, "day;dig 0 1;day;day;");
    Due.is("day 500", x.told(3), 500);
    Due.is("ran", x.ditch(1, 3), 500);
    Due.is("undone", x.undo() + x.undo() + x.undo(), 12);
    Edge.workDoes(x, 1, 0, "day;");
    BeliefRiver y = Due.of(Edge.FULL);
    Edge.workDoes(y, 2, 0, "day;day;");
    // 0 4 5 6 7 8 11
    int[] ran = {0, 0, 0, 0, 2, 2, 2, 2, 0, 0, 0, 0, 0, 2, 0, 2};
    for (int d = 0; d < 16; d++) Due.is("ran " + d, y.ditch(d, 3), ran[d]);
    Due.law(y, Edge.ALONG);
    Edge.workDoes(y, 1, 0, "day;");
    for (int d = 0; d < 16; d++) Due.is("ran then " + d, y.ditch(d, 3), ran[d] + (d < 11 ? 1 : 0));
    BeliefRiver z = Due.of("place 1;place 1;ditch 0 1;", "1");
    Edge.workDoes(z, 1, 0, "day;");
    Due.is("not back where it ends", z.ditch(0, 3), 1);
    BeliefRiver none = new BeliefRiver();
    Due.is("a day without places", Due.work(none, "day;"), 1);
    Due.is("goes by", none.told(3), 1);
  }

  private static void learning() {
    Sentences.hold("each PERSON in a PLACE of the COURSE from which it goes on believes that it goes from there on as it does; the DAY is one more.");
    // 0 4 5 6 7 8 11: of the persons in 0, 1, 2, 3, 4 and 11 those in 0 and 4 learn.
    BeliefRiver x = Due.of(Edge.FULL);
    Edge.workDoes(x, 1, 0, "day;");
    Due.is("in 0", x.belief(0, 0), 4);
    Due.is("in 4", x.belief(4, 4), 5);
    Due.is("no others, nor more", x.told(8), 2);
    Due.is("the day", x.told(3), 1);
    BeliefRiver y = Due.of(Edge.FULL, Edge.ALONG);
    Edge.workDoes(y, 3, 0, "walk 5 10;day;walk 5 11;");
    for (int p = 0; p < 5; p++) Due.is("in " + p, y.belief(p, p), p + 1);
    Due.is("in the last but one", y.belief(5, 10), 11);
    Due.is("six", y.told(8), 6);
    Edge.workDoes(y, 1, 0, "day;");
    Due.is("where it ends none learns", y.belief(5, 11), -1);
    // Whoever believed else of it does so no more.
    BeliefRiver z = Due.of("place 5;place 4;place 3;ditch 0 1;ditch 0 2;person 1 0;person 9 1;claim 0 0 1;claim 1 0 2;");
    Due.is("it goes", z.place(0, 3), 2);
    Edge.workDoes(z, 1, 0, "day;");
    Due.is("it is seen", z.belief(0, 0), 2);
    Due.is("from elsewhere not", z.belief(1, 0), 2);
    Due.is("two beliefs", z.told(8), 2);
    // By the COURSE of the day's beginning: that it ran from 0 to 1 does not yet draw it back from 1.
    BeliefRiver w = Due.of("place 1;place 1;place 1;ditch 0 1;ditch 1 2;", "ran*9+to");
    Edge.workDoes(w, 1, 0, "day;");
    Due.is("ran from 0 to 1", w.ditch(0, 3), 1);
    Due.is("ran from 1 to 2", w.ditch(1, 3), 1);
  }

  private static void undoing() {
    Sentences.hold("The latest WORK that was done is undone: how many are left; -1: there is none.");
    BeliefRiver x = Due.of(Edge.SMALL);
    Due.is("none", x.undo(), -1);
    String[] texts = {"", "tell 0 0 1;tell 1 3 2;", "forget 1 0;walk 0 2;walk 0 2;", "again 3[day;];", "dig 0 1;again 3[dig 2 3;];", "walk 1 2;"};
    String[] pictures = new String[texts.length];
    for (int k = 0; k < texts.length; k++) {
      pictures[k] = Edge.state(x);
      Due.is("no fault in '" + texts[k] + "'", Due.work(x, texts[k]) >= 0 ? 1 : 0, 1);
    }
    Due.is("six works", x.count(2), 6);
    for (int k = texts.length - 1; k >= 0; k--) {
      Due.is("undo '" + texts[k] + "'", x.undo(), k);
      Edge.same("as ahead of '" + texts[k] + "'", Edge.state(x), pictures[k]);
    }
    Due.is("none", x.undo(), -1);
    Edge.same("nothing is changed", Edge.state(x), pictures[0]);
    Due.is("it is no refusal", x.status(0) + x.status(1), 0);
    undoingAll();
  }

  private static void undoingAll() {
    BeliefRiver x = Due.of(Edge.FULL + "claim 5 11 9;");
    for (int k = 1; k <= 16; k++) {
      Due.is("work", Due.work(x, k % 2 == 1 ? "tell 5 11 10;dig 8 11;walk 5 10;day;" : "tell 5 11 8;walk 5 11;day;") > 0 ? 1 : 0, 1);
    }
    Due.law(x, "7");
    Due.book(x, "11 10;");
    for (int k = 15; k >= 0; k--) {
      Due.is("undo", x.undo(), k);
      Due.is("day", x.told(3), k);
      Due.is("dug", x.ditch(15, 2), (k + 1) / 2);
      Due.is("belief", x.belief(5, 11), k == 0 ? 9 : k % 2 == 1 ? 10 : 8);
      Due.is("where", x.person(5, 1), k % 2 == 1 ? 10 : 11);
    }
    Due.is("none", x.undo(), -1);
    Due.is("the law is not undone", x.pull(8, 11), 7);
    Due.is("nor the book", x.told(9), 1);
  }
}
