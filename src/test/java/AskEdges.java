import java.math.BigInteger;

/** The edges of the third part of the terms, and of promises 17 to 29: what will be, what would be. */
final class AskEdges {
  private static final String FORK = "place 0;place 0;place 0;ditch 0 1;ditch 0 2;";
  /** By SIX_LAW it goes from 0 to 2 while anybody believes so, and to 1 else; from there nowhere. */
  private static final String SIX = FORK + "person 1 0;".repeat(5) + "person 1 2;" + claims("0 2");
  private static final String SIX_LAW = "belief*9+to%2";

  private AskEdges() { }

  private static String claims(String what) {
    StringBuilder s = new StringBuilder();
    for (int p = 0; p < 6; p++) s.append("claim ").append(p).append(' ').append(what).append(';');
    return s.toString();
  }

  static void run() {
    asking();
    aheads();
    stayings();
    tellings();
    silences();
    whos();
    looks();
    digs();
    ways();
    meets();
    sights();
    seens();
    leaders();
    shares();
  }

  private static void asking() {
    Sentences.hold("Asked, nothing stays changed; DAYS go by as by day (beyond 500, too).");
    BeliefRiver x = Due.of(Edge.SMALL, "fall+belief*3-doubt+dug-ran%3");
    Due.work(x, "day;dig 0 1;walk 0 0;tell 0 3 1;");
    Due.book(x, "0 2;");
    x.image();
    String before = Edge.picture(x);
    int sum = x.ahead(99, 0) + x.ahead(99, 1) + x.stays() + x.tellings(0, 1, 0) + x.tellings(1, 2, 1) + x.silence(1) + x.who(0) + x.look(0) + x.look(1);
    sum += x.digs(1, 0) + x.digs(0, 1) + x.way(0, 3) + x.meet(0, 1, 0) + x.sight() + (int) x.seen(12, 5, 0) + x.leaders(30, 0) + x.share(1, 3, 4);
    sum += x.right(0, 0) + x.blank(0) + x.uphill() + x.year(7, 96, 8, 0) + x.span(7, 20, 96, 16, 2, 3) + x.status(0) + x.count(1) + x.fault() + x.course(0);
    Edge.same("nothing is changed", Edge.picture(x), before);
    Due.is("the same once more", x.ahead(99, 0) + x.ahead(99, 1) + x.stays() + x.tellings(0, 1, 0) + x.tellings(1, 2, 1) + x.silence(1) + x.who(0) + x.look(0)
        + x.look(1) + x.digs(1, 0) + x.digs(0, 1) + x.way(0, 3) + x.meet(0, 1, 0) + x.sight() + (int) x.seen(12, 5, 0) + x.leaders(30, 0) + x.share(1, 3, 4)
        + x.right(0, 0) + x.blank(0) + x.uphill() + x.year(7, 96, 8, 0) + x.span(7, 20, 96, 16, 2, 3) + x.status(0) + x.count(1) + x.fault() + x.course(0), sum);
    BeliefRiver y = Due.of(Edge.SMALL, "day-500");
    for (int k = 0; k < 3; k++) Due.work(y, "again 39[day;day;day;day;day;];");
    Due.is("day 500", y.told(3), 500);
    Due.is("now", y.ahead(0, 0), 1);
    Due.is("on day 501", y.ahead(1, 0), 3);
    Due.is("on day 599", y.ahead(99, 1), 1);
    Due.is("stays from 501 on", y.stays(), 1);
    Due.is("a year ends on day 501", y.year(1, 1, 0, 0), 1);
    Due.law(y, "day-595");
    Due.is("a year ends on day 595", y.year(1, 95, 0, 3), 1);
    Due.is("a year ends on day 596", y.year(1, 96, 0, 3), 3);
    Due.is("still day 500", y.told(3), 500);
  }

  private static void aheads() {
    Sentences.hold("In n DAYS (0 to 99), nothing else being done: 0 PLACES of the COURSE (bits), 1 where it ENDS (NONE).");
    BeliefRiver x = Due.of(FORK, "day%100-97+to%2"); // above 0 to 1 from day 97 on, to 2 from day 98 on
    int[][] due = {{0, 1, 0}, {96, 1, 0}, {97, 3, 1}, {98, 3, 1}, {99, 3, 1}};
    for (int[] d : due) {
      Due.is("ahead " + d[0], x.ahead(d[0], 0), d[1]);
      Due.is("ahead end " + d[0], x.ahead(d[0], 1), d[2]);
    }
    Edge.bounds(x, "ahead", 0, 99, n -> x.ahead(n, 0));
    BeliefRiver y = new BeliefRiver();
    Due.is("none", y.ahead(99, 0), 0);
    Due.is("nowhere", y.ahead(99, 1), -1);
    BeliefRiver z = Due.of(Edge.FULL, Edge.ALONG + "-day/3");
    Due.is("all", z.ahead(2, 0), 4095);
    Due.is("one", z.ahead(3, 0), 1);
    // Who sees it believes it: it goes on by belief alone from day 1 on.
    BeliefRiver w = Due.of("place 1;place 1;ditch 0 1;person 1 0;", "1-least[day,1]+belief");
    Due.is("believed", w.ahead(1, 1), 1);
    Due.is("still", w.ahead(99, 1), 1);
    Due.work(w, "walk 0 1;");
    Due.is("not seen", w.ahead(1, 1), 0);
  }

  private static void stay(int due, String law) { Due.is("stays by " + law, Due.of(FORK, law).stays(), due); }

  private static void stayings() {
    Sentences.hold("STAYS: the least k (0 to 60) so that, nothing else being done, the COURSE in k DAYS is the same as in k and 1, k and 2, .., k and 20 DAYS; NONE.");
    stay(0, "21-day"); // it is another one on day 21
    stay(20, "20-day"); // and here on day 20
    stay(1, "1-day");
    stay(0, "day/21");
    stay(20, "day/20");
    stay(-1, "day%2");
    stay(-1, "day%21"); // the same for 20 days, 1 to 20
    stay(1, "day%22"); // for 21
    stay(58, "(day%2)*(1-least[day/59,1])"); // on days 58 and 59 nowhere
    stay(60, "(day%2)*(1-least[day/60,1])");
    stay(-1, "((day+1)%2)*(1-least[day/61,1])"); // from day 61 on
    stay(60, "(day%2)*(1-least[day/60,1])+day/81");
    stay(-1, "(day%2)*(1-least[day/60,1])+day/80");
    stay(40, "20-day+day/40*2+least[day/40,1]*99"); // nowhere on days 20 to 39 only: too few
    stay(20, "20-day+least[day/41,1]*99");
    // The same PLACES and the same end in another order: 0 1 2 3 by even, 0 2 1 3 by odd days.
    BeliefRiver x = Due.of("place 0;place 0;place 0;place 0;ditch 0 1;ditch 0 2;ditch 1 2;ditch 1 3;ditch 2 3;",
        "(1-day%2)*(" + Edge.ALONG + ")+day%2*(1-(to-from+4)%3+to/3)");
    for (int n = 0; n < 2; n++) Due.is("places and end", x.ahead(n, 0) * 10 + x.ahead(n, 1), 153);
    Due.is("another order is another course", x.stays(), -1);
    Due.is("0 or 8", Due.of("place 1;".repeat(12) + "ditch 2 0;ditch 2 8;spring 2;", "1+to*(day%2)").stays(), -1);
    Due.is("2 1 0 or 2 3 0", Due.of("place 0;place 5;place 9;place 5;ditch 2 1;ditch 1 0;ditch 2 3;ditch 3 0;spring 2;", "fall+to*(day%2)").stays(), -1);
    Due.is("twelve places", Due.of(Edge.FULL, Edge.ALONG).stays(), 0);
    Due.is("twelve places, later eleven", Due.of(Edge.FULL, Edge.ALONG + "-day/9*(from/10)").stays(), 9);
    Due.is("11 or none", Due.of("place 1;".repeat(12) + "ditch 0 11;", "day%2").stays(), -1);
    Sentences.hold("STAYS (0: now).");
    stay(0, "1");
    stay(0, "0");
    Due.is("without places", new BeliefRiver().stays(), 0);
    BeliefRiver y = Due.of(FORK, "20-day");
    Due.work(y, "again 20[day;];");
    Due.is("now, on day 20", y.stays(), 0);
  }

  private static void telling(BeliefRiver x, int person, int place, int many, int first) {
    Due.is("tellings of " + person + " for " + place, x.tellings(person, place, 0), many);
    Due.is("first of these", x.tellings(person, place, 1), first);
  }

  private static void tellings() {
    Sentences.hold("TELLINGS of a PERSON for a PLACE: the fewest tells of this PERSON (0, 1 or 2, none REFUSED) one behind the other by which the COURSE comes to it now; "
        + "NONE: two do not; the least first tell (by A, then B) by which as few do.");
    BeliefRiver x = Due.of("place 0;place 3;place 6;place 9;ditch 0 1;ditch 1 2;ditch 2 3;person 2 0;person 1 0;");
    telling(x, 0, 1, 1, 1);
    telling(x, 0, 2, 2, 1);
    telling(x, 0, 3, -1, -1);
    telling(x, 1, 1, -1, -1);
    Due.work(x, "tell 0 1 2;");
    telling(x, 0, 2, 1, 1);
    telling(x, 0, 3, 2, 1);
    Due.work(x, "tell 0 0 1;");
    telling(x, 0, 2, 0, -1);
    telling(x, 0, 3, 1, 203);
    // By A: of 2-1 and 1-0 the latter is the first, whichever the river takes first.
    BeliefRiver y = Due.of("place 0;place 0;place 0;ditch 0 1;ditch 1 2;person 1 2;spring 2;");
    telling(y, 0, 1, 1, 201);
    telling(y, 0, 0, 2, 100);
    telling(Due.of("place 0;place 0;place 0;ditch 1 2;ditch 2 0;person 1 0;spring 1;"), 0, 0, 2, 102);
    telling(Due.of("place 3;place 0;ditch 0 1;person 1 0;person 2 0;spring 1;"), 0, 0, -1, -1);
    telling(Due.of("place 3;place 0;ditch 0 1;person 1 0;person 2 0;spring 1;"), 1, 0, 1, 100);
    // By B: to 3 it comes by 1 or by 2; to 4 by 2 alone.
    BeliefRiver z = Due.of("place 2;place 3;place 3;place 0;place 0;ditch 0 1;ditch 0 2;ditch 1 3;ditch 2 3;person 1 0;ditch 2 4;");
    telling(z, 0, 3, 1, 1);
    telling(z, 0, 4, 2, 2);
    Due.work(z, "tell 0 2 4;");
    telling(z, 0, 4, 1, 2);
    // A tell away from what is believed: it draws the river only by the doubt that ends.
    BeliefRiver w = Due.of("place 5;place 2;place 1;ditch 0 1;ditch 0 2;person 9 0;claim 0 0 2;");
    telling(w, 0, 1, 1, 1);
    telling(w, 0, 2, 0, -1);
    full();
    Sentences.hold("TELLINGS: 0 how many (0: it comes there yet), 1 the first one (100 times A, and B; NONE: none is needed, too).");
    telling(x, 0, 0, 0, -1);
    telling(y, 0, 2, 0, -1);
    telling(Due.of("place 1;person 1 0;"), 0, 0, 0, -1);
    telling(Due.of("place 1;place 1;person 1 0;"), 0, 1, -1, -1);
  }

  private static void full() {
    BeliefRiver x = Due.of(Edge.FULL);
    int[] yet = {0, 4, 5, 6, 7, 8, 11};
    for (int a : yet) telling(x, 5, a, 0, -1);
    telling(x, 5, 10, 1, 1110);
    telling(x, 5, 9, 1, 809);
    telling(x, 5, 1, 1, 1);
    telling(x, 5, 3, 1, 1);
    for (int a : new int[] {1, 2, 3, 9, 10}) telling(x, 0, a, -1, -1);
    Due.law(x, "belief-1"); // it goes nowhere but as told
    telling(x, 5, 1, 1, 1);
    telling(x, 5, 5, 2, 4);
    telling(x, 5, 6, -1, -1);
    BeliefRiver y = Due.of(Edge.FULL + "spring 11;", "belief-1");
    telling(y, 5, 10, 1, 1110);
    telling(y, 5, 7, 2, 807);
    telling(y, 5, 6, -1, -1);
  }

  private static void silences() {
    Sentences.hold("SILENCE for a PLACE: the fewest PERSONS by whom, were all they believe forgotten, the COURSE comes to it; of as few the least bits; NONE.");
    BeliefRiver x = Due.of(SIX, SIX_LAW);
    Due.is("all six", x.silence(1), 63);
    Due.is("nobody", x.silence(2), 0);
    Due.is("the spring", x.silence(0), 0);
    Due.work(x, "forget 2 0;");
    Due.is("all five", x.silence(1), 59);
    BeliefRiver y = Due.of(SIX, "(belief-4)*9+to%2*28"); // to 1 by -8, to 2 by (believers - 4) * 9
    Due.is("never", y.silence(1), -1);
    Due.law(y, "(belief-4)*9+to%2*37"); // to 1 by 1, to 2 by 9 if five believe so
    Due.is("the least of two", y.silence(1), 3);
    BeliefRiver z = Due.of(FORK + "person 1 0;".repeat(5) + "person 9 2;" + claims("0 2"), "belief-6+to%2*8"); // to 1 by 2
    Due.is("the last alone", z.silence(1), 32);
    // Of all that they believe, of every place: who is silenced for 0 is silent for 1, too.
    BeliefRiver w = Due.of("place 3;place 1;place 2;place 0;ditch 0 1;ditch 0 2;ditch 1 3;person 9 0;claim 0 0 2;claim 0 1 3;", "belief+fall");
    Due.is("to 1 and on by the fall", w.silence(3), 1);
    Due.law(w, "belief+1-from");
    Due.is("to 1, but not on", w.silence(3), -1);
    Due.is("to 1", w.silence(1), 1);
    Sentences.hold("SILENCE, as bits.");
    Due.is("without persons", Due.of(FORK, "to%2").silence(1), 0);
    Due.is("without persons never", Due.of(FORK, "to%2").silence(2), -1);
    Due.is("what is believed stays", x.told(8), 5);
  }

  private static void who(BeliefRiver x, String book, int many, int first, int sure) {
    Due.is("book '" + book + "' has no fault", Due.book(x, book) >= 0 ? 1 : 0, 1);
    Due.is("who by '" + book + "'", x.who(0), many);
    Due.is("the first by '" + book + "'", x.who(1), first);
    Due.is("sure by '" + book + "'", x.who(2), sure);
  }

  private static void whos() {
    Sentences.hold("WHO by BOOK: sets of PERSONS by which, had just these forgotten all, the river would go on as told from each A in a line "
        + "(by the greatest DRAW from A, whether the COURSE comes to A or not): how many, the first (least bits), SURE: PERSONS in all of these.");
    BeliefRiver x = Due.of(SIX, SIX_LAW);
    who(x, "", 64, 0, 0);
    who(x, "0 2;", 63, 0, 0);
    who(x, "0 1;", 1, 63, 63);
    Due.work(x, "forget 1 0;forget 4 0;forget 5 0;");
    who(x, "0 1;", 8, 13, 13); // 0, 2 and 3 must, the others may
    who(x, "0 2;", 56, 0, 0);
    Due.work(x, "forget 0 0;forget 2 0;");
    who(x, "0 1;", 32, 8, 8);
    BeliefRiver y = Due.of(Edge.FULL + "claim 5 11 10;claim 4 1 0;");
    who(y, "11 10;", 32, 0, 0);
    who(y, "11 10;1 2;", 16, 16, 16); // the COURSE does not come to 1; from there it goes to 0 only if 4 believes so
    who(y, "11 10;1 2;0 1;", 0, -1, 0);
    who(y, "11 10;1 0;", 16, 0, 0);
    who(y, "11 10;1 0;0 1;", 0, -1, 0);
    who(y, "10 11;", 64, 0, 0);
    who(y, "11 9;", 0, -1, 0);
    Sentences.hold("WHO: 0 how many sets, 1 the first (NONE), 2 SURE (bits; 0 without).");
    who(Due.of(FORK, "to%2"), "0 1;", 1, 0, 0);
    who(Due.of(FORK, "to%2"), "0 2;", 0, -1, 0);
    who(Due.of(FORK, "0"), "1 0;", 0, -1, 0);
    who(new BeliefRiver(), "", 1, 0, 0);
  }

  private static void look(BeliefRiver x, String book, int place, int worst) {
    Due.is("book '" + book + "' has no fault", Due.book(x, book) >= 0 ? 1 : 0, 1);
    Due.is("look by '" + book + "'", x.look(0), place);
    Due.is("at the worst by '" + book + "'", x.look(1), worst);
  }

  private static void looks() {
    Sentences.hold("LOOK: the PLACE in no line by which, wherever it goes on from there then (nowhere, too), fewest such sets are left at the worst, of these the first.");
    BeliefRiver x = Due.of(SIX, SIX_LAW);
    look(x, "", 0, 63);
    look(x, "0 2;", 1, 63);
    look(x, "0 1;", 1, 1);
    // Of 11 alone anything is believed: 32 sets each, on to 10 and nowhere.
    look(Due.of(Edge.FULL + "claim 5 11 10;"), "", 11, 32);
    // Of 10 it goes to 9 if both believe so, else to 11; of all others one way.
    look(Due.of(Edge.FULL + "claim 0 10 9;claim 1 10 9;"), "", 10, 48);
    // Of two alike places the first; of one in a line the other.
    BeliefRiver y = Due.of(Edge.FULL + "claim 5 11 10;claim 5 10 9;");
    look(y, "", 10, 32);
    look(y, "10 9;", 0, 32);
    look(y, "11 10;", 0, 32);
    look(y, "11 10;0 4;", 1, 32);
    BeliefRiver z = Due.of(Edge.FULL + "claim 5 11 10;claim 4 10 9;");
    look(z, "11 10;", 10, 16);
    look(z, "10 9;", 11, 16);
    // Three ways: on to 2 by two sets, to 1 by one, nowhere by one.
    BeliefRiver w = Due.of(FORK + "person 1 0;person 2 0;claim 0 0 1;claim 1 0 2;", "belief");
    for (int k = 0; k < 5; k++) look(w, "", 0, 2);
    look(w, "0 2;", 1, 2);
    look(w, "0 1;", 1, 1);
    Sentences.hold("LOOK: 0 the PLACE, 1 how many sets are left at the worst; NONE: all are in lines.");
    BeliefRiver all = Due.of(Edge.FULL);
    look(all, "0 4;1 2;2 3;3 4;4 5;5 6;6 7;7 8;8 11;9 11;10 11;", 11, 64);
    look(all, "0 4;1 2;2 3;3 4;4 5;5 6;6 7;7 8;8 11;9 11;11 10;", 10, 0);
    look(all, "0 4;1 2;2 3;3 4;4 5;5 6;6 7;7 8;8 11;9 11;10 11;11 10;", -1, -1);
    look(new BeliefRiver(), "", -1, -1);
  }

  private static void digs() {
    Sentences.hold("DIGS of A and B: how often the DITCH must be dug yet at the least (9 in all at most) so that from A it goes on to B; NONE.");
    BeliefRiver x = Due.of(Edge.FULL, "dug-8");
    Due.is("nine", x.digs(8, 11), 9);
    Due.is("the other way", x.digs(11, 8), 9);
    Due.work(x, "again 4[dig 8 11;];");
    Due.is("five more", x.digs(8, 11), 5);
    Due.is("of another nine", x.digs(9, 11), 9);
    Due.law(x, "dug-9");
    Due.is("never", x.digs(8, 11), -1);
    Due.law(x, "dug-3");
    Due.is("it goes so", x.digs(8, 11), 0);
    Due.is("not by as many, where it goes elsewhere ahead", x.digs(11, 10), 5); // 8 draws by 1, 10 must by 2
    Due.is("as many are enough for a lesser place", x.digs(8, 7), 4);
    Due.work(x, "again 5[dig 8 11;];");
    Due.law(x, "dug-8");
    Due.is("nine were dug", x.digs(8, 11), 0);
    Due.law(x, "dug-9");
    Due.is("no tenth", x.digs(8, 11), -1);
    Due.is("nine are not enough", x.digs(8, 7), -1);
    Due.law(x, "9-dug");
    Due.is("by digging it goes elsewhere", x.digs(8, 11), -1);
    Due.is("it goes so", x.digs(8, 7), 0);
    // What was asked ahead of another DITCH is not kept.
    Due.is("of 10, too", x.digs(11, 10), -1);
    Due.is("of 9", x.digs(11, 9), 0);
    Sentences.hold("DIGS (0: it goes so yet); NONE, if there is no DITCH between, too.");
    Due.law(x, "1");
    Due.is("yet", x.digs(0, 1), 0);
    Due.is("no ditch between", x.digs(0, 11), -1);
    Due.is("from a place to itself", x.digs(0, 0), -1);
  }

  private static String line(int many) {
    StringBuilder s = new StringBuilder("place 0;".repeat(many));
    for (int k = 1; k < many; k++) s.append("ditch ").append(k - 1).append(' ').append(k).append(';');
    return s.toString();
  }

  private static void ways() {
    Sentences.hold("WAY of two PLACES: the fewest DITCHES; NONE.");
    BeliefRiver x = Due.of(Edge.FULL);
    int[] from0 = {0, 1, 1, 1, 1, 2, 3, 4, 5, 6, 7, 6};
    for (int a = 0; a < 12; a++) {
      Due.is("way to " + a, x.way(0, a), from0[a]);
      Due.is("and back", x.way(a, 0), from0[a]);
    }
    BeliefRiver y = Due.of(line(12));
    for (int a = 0; a < 12; a++) Due.is("along a line", y.way(11, a), 11 - a);
    BeliefRiver z = Due.of(line(6) + "place 0;");
    Due.is("no way", z.way(0, 6), -1);
    Due.is("no way back", z.way(6, 0), -1);
    Sentences.hold("WAY (0: one PLACE).");
    Due.is("one", z.way(6, 6), 0);
    Due.is("one", z.way(0, 0), 0);
    Due.is("one", x.way(11, 11), 0);
  }

  private static void meet(BeliefRiver x, int one, int other, int place, int many) {
    Due.is("meet " + one + " " + other, x.meet(one, other, 0), place);
    Due.is("together " + one + " " + other, x.meet(one, other, 1), many);
  }

  private static void meets() {
    Sentences.hold("MEET of two PERSONS: the PLACE to which both WAYS together are shortest, of alike ones the least; NONE.");
    BeliefRiver x = Due.of(Edge.FULL);
    meet(x, 0, 5, 0, 6);
    meet(x, 5, 0, 0, 6);
    meet(x, 4, 5, 4, 5);
    meet(x, 1, 4, 0, 2); // by 0, not by 2 and 3
    meet(x, 1, 3, 0, 2); // 1 0 3 or 1 2 3
    Due.work(x, "walk 5 10;");
    meet(x, 5, 4, 4, 6);
    meet(Due.of(line(12) + "person 1 11;person 1 0;"), 0, 1, 0, 11);
    meet(Due.of(line(12) + "person 1 11;person 1 10;"), 0, 1, 10, 1);
    Sentences.hold("MEET of two PERSONS: 0 the PLACE, 1 how many DITCHES together; NONE both.");
    meet(x, 5, 5, 10, 0);
    meet(x, 0, 0, 0, 0);
    meet(Due.of("place 0;place 0;place 0;ditch 1 2;person 1 0;person 1 2;"), 0, 1, -1, -1);
    meet(Due.of("place 0;place 0;place 0;ditch 0 1;person 1 2;person 1 2;"), 0, 1, 2, 0);
  }

  private static void sights() {
    Sentences.hold("SIGHT: one in a PLACE sees it and all to which a DITCH leads from there: the fewest PLACES from which all of the COURSE is seen, of as few the least bits.");
    Due.is("0, 5 and 8", Due.of(Edge.FULL).sight(), 289);
    Due.is("0, 6 and 9", Due.of(Edge.FULL, Edge.ALONG).sight(), 577);
    Due.is("the least from which the last is seen", Due.of(Edge.FULL + "spring 11;").sight(), 256);
    Due.is("four of a line", Due.of(line(12), "to").sight(), 1 << 1 | 1 << 4 | 1 << 7 | 1 << 10);
    Due.is("one place", Due.of("place 0;").sight(), 1);
    Due.is("the last, without ditches", Due.of("place 0;".repeat(12) + "spring 11;").sight(), 2048);
    Due.is("the least of two", Due.of(line(2), "to").sight(), 1);
    Due.is("the middle of three", Due.of(line(3), "to").sight(), 2);
    Due.is("from beside the course", Due.of(line(4) + "place 0;ditch 4 0;ditch 4 1;ditch 4 2;ditch 4 3;", Edge.ALONG + "-to/4*9").sight(), 16);
    Sentences.hold("SIGHT, as bits (0: no COURSE).");
    Due.is("none", new BeliefRiver().sight(), 0);
  }

  private static void seens() {
    Sentences.hold("SEEN by n, q: n PERSONS look, each sees it by q of 16, each by himself: how likely two of them do, or more.");
    for (int n = 0; n <= 12; n++) {
      BeliefRiver x = new BeliefRiver();
      for (int q = 0; q <= 16; q++) {
        BigInteger above = BigInteger.ZERO;
        BigInteger ways = BigInteger.ONE;
        for (int k = 0; k <= n; k++) {
          if (k >= 2) above = above.add(ways.multiply(BigInteger.valueOf(q).pow(k)).multiply(BigInteger.valueOf(16 - q).pow(n - k)));
          ways = ways.multiply(BigInteger.valueOf(n - k)).divide(BigInteger.valueOf(k + 1));
        }
        BigInteger below = BigInteger.valueOf(16).pow(n);
        BigInteger both = above.gcd(below);
        Due.is("above of " + n + " " + q, x.seen(n, q, 0), above.divide(both).longValueExact());
        Due.is("below of " + n + " " + q, x.seen(n, q, 1), below.divide(both).longValueExact());
      }
    }
    Sentences.hold("SEEN by n (0 to 12), q (0 to 16): above (part 0), below (part 1), in least terms.");
    BeliefRiver y = new BeliefRiver();
    Due.is("never is 0 of 1", y.seen(0, 16, 0) * 10 + y.seen(0, 16, 1), 1);
    Due.is("one alone never, too", y.seen(1, 16, 0) * 10 + y.seen(1, 16, 1), 1);
    Due.is("surely is 1 of 1", y.seen(2, 16, 0) * 10 + y.seen(2, 16, 1), 11);
    Due.is("twelve of 1, above", y.seen(12, 1, 0), 47931568507531L);
    Due.is("twelve of 1, below", y.seen(12, 1, 1), 281474976710656L);
    Edge.bounds(y, "seen n", 0, 12, n -> (int) y.seen(n, 3, 0));
    Edge.bounds(y, "seen q", 0, 16, q -> (int) y.seen(3, q, 0));
  }

  private static void rests(BeliefRiver x, int d, int many, int first, int both) {
    Due.is("rests by " + d, x.leaders(d, 0), many);
    Due.is("the first by " + d, x.leaders(d, 1), first);
    Due.is("both have by " + d, x.leaders(d, 2), both);
  }

  private static void leaders() {
    Sentences.hold("LEADERS by d: each of two says of one of the PLACES to which a DITCH leads from the spring, any, that it goes there: "
        + "as if one more PERSON of TRUST d believed that, elsewhere (each of them counts for itself); who said where it then goes on from the spring has 2, "
        + "or 1, if both said that; else 0; RESTS: neither would have more by another of these PLACES.");
    BeliefRiver x = Due.of(Edge.FULL + "spring 11;", "belief");
    rests(x, 1, 1, 808, 2);
    Due.law(x, "belief+to");
    rests(x, 1, 1, 1010, 2);
    Due.law(x, "0"); // nowhere, whatever is said
    rests(x, 30, 9, 808, 0);
    Due.law(x, "belief-1"); // by both saying the same, else nowhere
    rests(x, 1, 3, 808, 2);
    Due.law(x, "belief-2");
    rests(x, 1, 9, 808, 0);
    Due.law(x, "belief+near*9-8"); // near the 9th trusted in 11, and nobody else: the leaders are elsewhere
    rests(x, 1, 1, 808, 2);
    Due.law(x, "belief+near*9-10");
    rests(x, 1, 3, 808, 2);
    rests(Due.of(FORK, "belief+near*9-1"), 1, 2, 101, 2); // not in place 0 either
    // What others believe counts along with them, and what they say is doubt elsewhere.
    BeliefRiver y = Due.of(FORK + "person 3 0;claim 0 0 2;", "belief*3-doubt");
    rests(y, 0, 1, 202, 2);
    rests(y, 1, 1, 202, 2);
    rests(y, 2, 1, 202, 2); // one for each: to 1 by 1, to 2 by 13
    rests(y, 30, 1, 202, 2); // one for each: to 1 by 57, to 2 by 69
    // It goes where fewer say, and to 1 if one says each: all but (2, 2) rest, (1, 1) with nothing.
    BeliefRiver z = Due.of(FORK, "doubt");
    rests(z, 1, 3, 101, 0);
    // The spring is 2: its PLACES are 0, 1 and 3.
    BeliefRiver w = Due.of("place 0;place 0;place 0;place 0;ditch 2 3;ditch 2 0;ditch 2 1;spring 2;", "belief*(1+to%2)");
    rests(w, 1, 1, 101, 2);
    Due.law(w, "belief+9-to*2"); // to 0, unless both say 1: that is alike, and goes to 0, too
    rests(w, 1, 1, 0, 2);
    // Who says 2 alone has it, if both do it goes nowhere: all but (1, 1) rest.
    rests(Due.of(FORK, "(to-1)*belief*doubt"), 1, 3, 102, 2);
    // It goes to 1 if they say the same, to 2 if not: all but (1, 1) rest here, too.
    rests(Due.of(FORK, "(to-1)*(2-(belief-doubt)*(belief-doubt))+(2-to)"), 1, 3, 102, 2);
    Sentences.hold("LEADERS by d (0 to 30): 0 how many RESTS, 1 the first (100 times the one's PLACE, and the other one's; NONE), 2 what both have by it together (0 without).");
    BeliefRiver six = Due.of("place 0;place 0;ditch 0 1;" + "person 9 0;".repeat(6) + claims("0 1"), "belief-113");
    rests(six, 30, 1, 101, 2);
    rests(six, 29, 1, 101, 0);
    Edge.bounds(six, "leaders", 0, 30, d -> six.leaders(d, 0));
    rests(Due.of("place 0;place 0;place 0;ditch 1 2;"), 9, 0, -1, 0);
    rests(new BeliefRiver(), 9, 0, -1, 0);
    Due.is("a land without ditches", Due.land(six, "place 0;"), 1);
    rests(six, 30, 0, -1, 0);
  }

  private static void shares() {
    Sentences.hold("SHARES of n among told PERSONS (bits) by TRUST: levelled: no more than that each, no more than a bound, the greatest by which no more than n are given (all, if they are no more).");
    BeliefRiver x = Due.of(Edge.FULL); // 1, 2, 3, 4, 5 and 9
    int[][] due = {{0, 0}, {5, 0}, {6, 1}, {10, 1}, {11, 2}, {14, 2}, {15, 3}, {17, 3}, {18, 4}, {19, 4}, {20, 5}, {21, 6}, {22, 7}, {23, 8}, {24, 9}, {25, 9}, {99, 9}};
    for (int[] d : due) {
      for (int p = 0; p < 6; p++) Due.is("share of " + d[0] + " for " + p, x.share(p, 63, d[0]), Math.min(d[1], p < 5 ? p + 1 : 9));
    }
    BeliefRiver y = Due.of(Edge.FULL);
    for (int n = 0; n <= 99; n += 3) Due.is("the last alone of " + n, y.share(5, 32, n), Math.min(n, 9));
    Due.is("two of six", y.share(5, 33, 6), 5);
    Due.is("two of six", y.share(0, 33, 6), 1);
    Due.is("two of one", y.share(0, 33, 1), 0);
    Sentences.hold("What a PERSON gets of n (0 to 99) by SHARES among told PERSONS (0, if it is none of them).");
    for (int p = 0; p < 6; p++) Due.is("none of them " + p, y.share(p, 63 - (1 << p), 99), 0);
    Due.is("nobody is told", y.share(5, 0, 99), 0);
    Edge.bounds(y, "share n", 0, 99, n -> y.share(5, 63, n));
    Sentences.hold("IllegalArgumentException: bits of no PERSONS.");
    Edge.bounds(y, "share bits of six", 0, 63, b -> y.share(5, b, 9));
    BeliefRiver z = Due.of(Edge.SMALL);
    Edge.bounds(z, "share bits of two", 0, 3, b -> z.share(1, b, 9));
    for (int k = 2; k < 32; k++) {
      int bit = 1 << k;
      Edge.illegal(z, "share bit " + k, () -> z.share(1, bit, 9));
      Edge.illegal(z, "share bit " + k + " with others", () -> z.share(1, bit | 3, 9));
    }
  }
}
