/** Promises 9 to 38: what is told and asked, IMAGES, refusals. Dues are reckoned by hand from the document. */
public final class AnswersTest {
  // By the law without a text it draws 0-1: 4 - 3, 0-2: 4 + 9, 1-3 and 2-3: 5: it goes 0, 2, 3.
  private static final String LAND = "place 9;place 5;place 5;place 0;ditch 0 1;ditch 0 2;ditch 1 3;ditch 2 3;"
      + "person 2 0;person 3 1;claim 1 0 2;";
  private static final String APART = "place 1;place 2;place 3;ditch 1 2;person 1 0;person 9 2;";
  // It goes on to 1 while person 0 believes so.
  private static final String FAITH = "place 0;place 0;ditch 0 1;person 1 0;claim 0 0 1;";

  private static void tolds() {
    BeliefRiver x = Due.of(LAND);
    int[] due = {4, 4, 2, 0, 0, 3, 13, 3, 1, 0, 0};
    for (int k = 0; k < due.length; k++) Due.is("told " + k, x.told(k), due[k]);
    Due.illegal("told -1", () -> x.told(-1));
    Due.illegal("told 11", () -> x.told(11));
    Due.work(x, "day;walk 0 3;tell 0 3 1;");
    Due.book(x, "0 1;2 3;");
    // Person 0 in 0 learned; believing 3-1 with trust 2 it draws -5 + 6 - 0: on to 1, from there back to 3.
    int[] then = {4, 4, 2, 1, 0, 4, 15, 1, 3, 2, 1};
    for (int k = 0; k < then.length; k++) Due.is("told then " + k, x.told(k), then[k]);
  }

  private static void places() {
    BeliefRiver x = Due.of(LAND);
    int[][] due = {{9, 6, 1, 2, 0}, {5, 9, 2, 3, -1}, {5, 9, 0, 3, 1}, {0, 6, 0, -1, 2}};
    for (int a = 0; a < 4; a++) for (int k = 0; k < 5; k++) Due.is("place " + a + " " + k, x.place(a, k), due[a][k]);
    Due.missing("place 4", () -> x.place(4, 0));
    Due.missing("place -1, ahead of what", () -> x.place(-1, 9));
    Due.illegal("place what 5", () -> x.place(0, 5));
    Due.illegal("place what -1", () -> x.place(0, -1));
    BeliefRiver y = Due.of("place 5;place 5;place 5;ditch 0 2;ditch 0 1;", "1");
    Due.is("of alike ones the least place", y.place(0, 3), 1);
    Due.law(y, "0");
    Due.is("0 is not above 0", y.place(0, 3), -1);
  }

  private static void ditches() {
    BeliefRiver x = Due.of(LAND);
    Due.work(x, "dig 3 1;dig 1 3;day;");
    int[][] due = {{0, 1, 0, 0}, {0, 2, 0, 1}, {1, 3, 2, 0}, {2, 3, 0, 1}};
    for (int d = 0; d < 4; d++) for (int k = 0; k < 4; k++) Due.is("ditch " + d + " " + k, x.ditch(d, k), due[d][k]);
    Due.missing("ditch 4", () -> x.ditch(4, 0));
    Due.missing("ditch -1, ahead of what", () -> x.ditch(-1, 4));
    Due.illegal("ditch what 4", () -> x.ditch(0, 4));
    Due.illegal("ditch what -1", () -> x.ditch(0, -1));
    BeliefRiver y = Due.of("place 5;place 3;ditch 1 0;");
    Due.is("as it was told, A", y.ditch(0, 0), 1);
    Due.is("as it was told, B", y.ditch(0, 1), 0);
  }

  private static void persons() {
    BeliefRiver x = Due.of(LAND);
    // Trust 2 draws 1-0 to -4 + 6, less than 1-3 by 5 - 2.
    Due.work(x, "tell 0 1 0;tell 0 2 3;");
    int[][] due = {{2, 0, 2, 1}, {3, 1, 1, 1}};
    for (int p = 0; p < 2; p++) for (int k = 0; k < 4; k++) Due.is("person " + p + " " + k, x.person(p, k), due[p][k]);
    Due.missing("person 2", () -> x.person(2, 0));
    Due.missing("person -1, ahead of what", () -> x.person(-1, 4));
    Due.illegal("person what 4", () -> x.person(0, 4));
    Due.illegal("person what -1", () -> x.person(0, -1));
    Due.is("belief", x.belief(0, 1), 0);
    Due.is("belief", x.belief(1, 0), 2);
    Due.is("belief none", x.belief(1, 1), -1);
    Due.missing("belief of 2", () -> x.belief(2, 0));
    Due.missing("belief of -1", () -> x.belief(-1, 0));
    Due.missing("belief on 4", () -> x.belief(0, 4));
    Due.missing("belief on -1", () -> x.belief(0, -1));
    Due.is("right 0", x.right(0, 0), 2);
    Due.is("wrong 0", x.right(0, 1), 0);
    Due.is("right 1", x.right(1, 0), 0);
    Due.is("wrong 1", x.right(1, 1), 1);
    Due.law(x, "0");
    Due.is("nowhere: none is right", x.right(0, 0), 0);
    Due.is("nowhere: all are wrong", x.right(0, 1), 2);
    Due.missing("right 4", () -> x.right(4, 0));
    Due.missing("right -1, ahead of what", () -> x.right(-1, 2));
    Due.illegal("right what 2", () -> x.right(0, 2));
    Due.illegal("right what -1", () -> x.right(0, -1));
  }

  private static void blanks() {
    BeliefRiver x = Due.of("place 2;place 1;ditch 0 1;person 3 0;person 7 0;person 9 0;person 7 0;claim 2 0 1;");
    Due.is("blank", x.blank(0), 1);
    Due.is("its trust", x.blank(1), 7);
    Due.work(x, "tell 1 0 1;tell 3 1 0;");
    Due.is("blank", x.blank(0), 0);
    Due.is("its trust", x.blank(1), 3);
    Due.work(x, "day;");
    Due.is("none is blank", x.blank(0), -1);
    Due.is("no trust", x.blank(1), -1);
    Due.illegal("blank 2", () -> x.blank(2));
    Due.illegal("blank -1", () -> x.blank(-1));
  }

  private static void pulls() {
    BeliefRiver x = Due.of(LAND);
    Due.is("pull 0 1", x.pull(0, 1), 1);
    Due.is("pull 0 2", x.pull(0, 2), 13);
    Due.is("pull 1 0", x.pull(1, 0), -4);
    Due.is("pull 0 3", x.pull(0, 3), -100);
    Due.is("pull 0 0", x.pull(0, 0), -100);
    Due.missing("pull 4 0", () -> x.pull(4, 0));
    Due.missing("pull 0 -1", () -> x.pull(0, -1));
    Due.work(x, "again 3[dig 2 0;];day;day;walk 1 0;walk 0 2;walk 0 3;");
    String[] laws = {"fall", "belief", "doubt", "near", "dug", "ran", "day", "from", "to"};
    int[] from0to2 = {4, 5, 0, 1, 3, 2, 2, 0, 2};
    int[] from2to0 = {-4, 0, 0, 1, 3, 2, 2, 2, 0};
    int[] from0to1 = {4, 0, 5, 1, 0, 0, 2, 0, 1};
    for (int k = 0; k < laws.length; k++) {
      Due.law(x, laws[k]);
      Due.is("pull 0 2 by " + laws[k], x.pull(0, 2), from0to2[k]);
      Due.is("pull 2 0 by " + laws[k], x.pull(2, 0), from2to0[k]);
      Due.is("pull 0 1 by " + laws[k], x.pull(0, 1), from0to1[k]);
    }
    Due.law(x, "near");
    Due.is("near counts both places", x.pull(3, 1), 1);
    Due.work(x, "walk 1 1;");
    Due.is("near counts both places", x.pull(3, 1), 2);
    Due.law(x, "fall*100");
    Due.is("99 at most", x.pull(0, 1), 99);
    Due.is("-99 at least", x.pull(1, 0), -99);
  }

  private static void woulds() {
    BeliefRiver x = new BeliefRiver();
    Due.law(x, "fall+belief+doubt+near+dug+ran+day+from+to-900");
    Due.is("would", x.would(-60, 54, 54, 6, 9, 999, 0, 11, 11), 99);
    Due.is("would", x.would(60, 54, 54, 6, 9, 300, 500, 11, 11), 99);
    Due.is("would", x.would(60, 54, 54, 6, 9, 200, 500, 11, 11), 5);
    Due.is("would", x.would(-60, 0, 0, 0, 0, 0, 0, 0, 0), -99);
    int[] least = {-60, 0, 0, 0, 0, 0, 0, 0, 0};
    int[] most = {60, 54, 54, 6, 9, 999, 500, 11, 11};
    for (int k = 0; k < 9; k++) {
      int[] v = least.clone();
      v[k] = least[k] - 1;
      Due.illegal("would below " + k, () -> x.would(v[0], v[1], v[2], v[3], v[4], v[5], v[6], v[7], v[8]));
      int[] w = least.clone();
      w[k] = most[k] + 1;
      Due.illegal("would above " + k, () -> x.would(w[0], w[1], w[2], w[3], w[4], w[5], w[6], w[7], w[8]));
    }
  }

  private static void courses() {
    BeliefRiver x = Due.of(LAND);
    int[] due = {0, 2, 3, -1, -1};
    for (int k = 0; k < due.length; k++) Due.is("course " + k, x.course(k), due[k]);
    Due.is("course far", x.course(Integer.MAX_VALUE), -1);
    Due.illegal("course -1", () -> x.course(-1));
    Due.illegal("course far below", () -> x.course(Integer.MIN_VALUE));
    BeliefRiver y = Due.of(LAND + "spring 3;");
    Due.is("from the spring", y.course(0), 3);
    Due.is("where it ends at once", y.course(1), -1);
  }

  private static void aheads() {
    // From 0 it is drawn to 1 by 3 - ran, to 2 by 1: after 2 days to 1 it is alike and goes to 1 still; then 2.
    BeliefRiver x = Due.of("place 0;place 0;place 0;ditch 0 1;ditch 0 2;", "3-ran-(to/2)*2");
    int[] bits = {3, 3, 3, 5, 1, 1};
    int[] ends = {1, 1, 1, 2, 0, 0};
    for (int n = 0; n < bits.length; n++) {
      Due.is("ahead " + n, x.ahead(n, 0), bits[n]);
      Due.is("ahead end " + n, x.ahead(n, 1), ends[n]);
    }
    Due.is("stays", x.stays(), 4);
    Due.is("nothing is changed", x.told(3) + x.ditch(0, 3), 0);
    Due.illegal("ahead -1", () -> x.ahead(-1, 0));
    Due.illegal("ahead 100", () -> x.ahead(100, 0));
    Due.illegal("ahead what 2", () -> x.ahead(0, 2));
    Due.illegal("ahead what -1", () -> x.ahead(0, -1));
    Due.is("ahead 99", x.ahead(99, 0), 1);
  }

  private static void stay(int due, String law) {
    Due.is("stays by " + law, Due.of("place 0;place 0;place 0;ditch 0 1;ditch 0 2;", law).stays(), due);
  }

  private static void stayings() {
    stay(0, "1");
    stay(0, "60-day"); // 20 days more are enough
    stay(60, "(day%2)*(1-least[day/60,1])");
    stay(-1, "((day+1)%2)*(1-least[day/61,1])");
    stay(0, "21-day");
    stay(20, "20-day");
    stay(-1, "day%2");
    stay(20, "least[day/20,1]");
    // On days 19, 38, .. it runs, so it never is the same for 20 days more.
    stay(-1, "(day+1)%19");
    stay(1, "1+(day%40)/39-to*(1-least[day,1])");
    BeliefRiver x = Due.of("place 1;place 0;ditch 0 1;", "day-510");
    for (int k = 0; k < 3; k++) Due.work(x, "again 60[day;];again 60[day;];again 47[day;];");
    Due.is("beyond day 500", x.stays(), 11);
    Due.is("ahead, beyond day 500", x.ahead(11, 1), 1);
    // The same places in another order are another course.
    Due.is("order", Due.of("place 0;place 0;place 0;ditch 0 1;ditch 1 2;ditch 2 0;", "1+to*(day%2)").stays(), -1);
  }

  private static void tellingsOf() {
    BeliefRiver x = Due.of(LAND);
    Due.is("none needed", x.tellings(0, 3, 0), 0);
    Due.is("none needed, first", x.tellings(0, 3, 1), -1);
    Due.is("one", x.tellings(0, 1, 0), 1); // 3-1: -5 + 6
    Due.is("one, first", x.tellings(0, 1, 1), 301);
    Due.is("one of more trust", x.tellings(1, 1, 1), 1);
    Due.is("nothing is changed", x.told(8), 1);
    BeliefRiver y = Due.of("place 0;place 3;place 6;ditch 0 1;ditch 1 2;person 2 0;person 1 0;");
    Due.is("two", y.tellings(0, 2, 0), 2);
    Due.is("two, first", y.tellings(0, 2, 1), 1);
    Due.is("never", y.tellings(1, 2, 0), -1);
    Due.is("never, first", y.tellings(1, 2, 1), -1);
    Due.work(y, "tell 0 1 2;");
    Due.is("what is believed yet is no tell", y.tellings(0, 2, 0), 1);
    // Three of them would do; a second of the same place does not help.
    BeliefRiver z = Due.of("place 0;place 3;place 6;place 9;ditch 0 1;ditch 1 2;ditch 2 3;person 2 0;");
    Due.is("three are too many", z.tellings(0, 3, 0), -1);
    Due.missing("tellings of 2", () -> x.tellings(2, 0, 0));
    Due.missing("tellings of -1", () -> x.tellings(-1, 0, 0));
    Due.missing("tellings for 4, ahead of what", () -> x.tellings(0, 4, 2));
    Due.missing("tellings for -1", () -> x.tellings(0, -1, 0));
    Due.illegal("tellings what 2", () -> x.tellings(0, 0, 2));
    Due.illegal("tellings what -1", () -> x.tellings(0, 0, -1));
  }

  private static void silences() {
    BeliefRiver x = Due.of(LAND);
    Due.is("whom", x.silence(1), 2);
    Due.is("nobody", x.silence(3), 0);
    Due.is("nothing is changed", x.told(8), 1);
    BeliefRiver y = Due.of(LAND + "person 1 2;person 9 2;claim 0 0 2;claim 2 0 1;claim 3 0 2;");
    // To 1: 4 + 3 - 14, to 2: 4 + 42 - 1. Without 3: 4 + 3 - 5 and 4 + 15 - 1; without 1 and 3: 7 - 2 and 9.
    Due.is("three", y.silence(1), 11);
    Due.missing("silence 4", () -> x.silence(4));
    Due.missing("silence -1", () -> x.silence(-1));
    Due.is("never", Due.of(APART).silence(2), -1);
  }

  private static void whos() {
    BeliefRiver x = Due.of(LAND);
    whoIs(x, "", 4, 0, 0, 0, 2);
    whoIs(x, "0 2;", 2, 0, 0, 1, 2);
    whoIs(x, "0 1;", 2, 2, 2, 1, 2);
    whoIs(x, "0 1;1 0;", 0, -1, 0, 2, 0);
    whoIs(x, "1 3;", 4, 0, 0, 0, 2); // the river does not come to 1
    whoIs(x, "0 2;1 3;2 3;3 1;", 0, -1, 0, -1, -1);
    Due.law(x, "belief"); // from 0 nowhere, had person 1 forgotten
    whoIs(x, "", 4, 0, 0, 0, 2);
    whoIs(x, "0 2;", 2, 0, 0, 1, 2);
    Due.illegal("who 3", () -> x.who(3));
    Due.illegal("who -1", () -> x.who(-1));
    Due.illegal("look 2", () -> x.look(2));
    Due.illegal("look -1", () -> x.look(-1));
    Due.is("nothing is changed", x.told(8), 1);
  }

  private static void whoIs(BeliefRiver x, String book, int... due) {
    Due.book(x, book);
    int[] got = {x.who(0), x.who(1), x.who(2), x.look(0), x.look(1)};
    for (int k = 0; k < 5; k++) Due.is("who, look by '" + book + "', " + k, got[k], due[k]);
  }

  private static void diggings() {
    BeliefRiver x = Due.of(LAND, "fall+dug*3");
    Due.is("as it goes", x.digs(0, 1), 0);
    Due.is("once", x.digs(0, 2), 1);
    Due.is("till alike, to the lesser place", x.digs(1, 0), 3);
    Due.is("no ditch", x.digs(0, 3), -1);
    Due.is("one place", x.digs(0, 0), -1);
    Due.is("nothing is changed", x.ditch(0, 2), 0);
    Due.law(x, "fall+dug");
    Due.is("nine times", x.digs(1, 0), 9);
    Due.work(x, "again 4[dig 0 1;];");
    Due.is("five more", x.digs(1, 0), 5);
    Due.is("six above 5", x.digs(3, 1), 6);
    Due.law(x, "fall+dug-5");
    Due.is("not by nine", x.digs(1, 3) == 1 ? x.digs(3, 2) : -9, -1);
    Due.missing("digs 4", () -> x.digs(4, 0));
    Due.missing("digs -1", () -> x.digs(0, -1));
  }

  private static void ways() {
    BeliefRiver x = Due.of(LAND);
    Due.is("way 0 3", x.way(0, 3), 2);
    Due.is("way 3 2", x.way(3, 2), 1);
    Due.is("way 3 3", x.way(3, 3), 0);
    Due.missing("way 4", () -> x.way(4, 0));
    Due.missing("way -1", () -> x.way(0, -1));
    Due.is("meet", x.meet(0, 1, 0), 0);
    Due.is("meet, together", x.meet(1, 0, 1), 1);
    Due.is("oneself", x.meet(1, 1, 0), 1);
    Due.is("oneself, together", x.meet(1, 1, 1), 0);
    Due.missing("meet 2", () -> x.meet(2, 0, 0));
    Due.missing("meet -1, ahead of what", () -> x.meet(0, -1, 5));
    Due.illegal("meet what 2", () -> x.meet(0, 1, 2));
    Due.illegal("meet what -1", () -> x.meet(0, 1, -1));
    BeliefRiver y = Due.of(APART);
    Due.is("no way", y.way(0, 2), -1);
    Due.is("no meeting", y.meet(0, 1, 0), -1);
    Due.is("no meeting, together", y.meet(0, 1, 1), -1);
    StringBuilder line = new StringBuilder("place 12;");
    for (int k = 1; k < 12; k++) line.append("place ").append(12 - k).append(";ditch ").append(k - 1).append(' ').append(k).append(';');
    BeliefRiver z = Due.of(line + "person 1 11;person 1 0;");
    Due.is("eleven", z.way(11, 0), 11);
    Due.is("together, eleven", z.meet(0, 1, 1), 11);
    Due.is("the least place", z.meet(0, 1, 0), 0);
    Due.is("twelve places", z.told(5), 12);
    Due.is("four see twelve in a row", z.sight(), 1 << 1 | 1 << 4 | 1 << 7 | 1 << 10);
  }

  private static void sights() {
    Due.is("sight", Due.of(LAND).sight(), 4);
    Due.is("from a place beside the course", Due.of("place 9;place 8;place 1;place 7;ditch 0 1;ditch 0 2;ditch 2 1;ditch 1 3;"
        + "ditch 3 0;ditch 3 2;spring 1;", "most[fall,0]").sight(), 1);
    Due.is("one place", Due.of("place 1;").sight(), 1);
    Due.is("no course", new BeliefRiver().sight(), 0);
  }

  private static void seens() {
    BeliefRiver x = new BeliefRiver();
    long[][] due = {{0, 5, 0, 1}, {1, 16, 0, 1}, {2, 8, 1, 4}, {3, 4, 5, 32}, {2, 16, 1, 1}, {12, 0, 0, 1}, {12, 16, 1, 1}, {2, 1, 1, 256},
        {12, 3, 193659117402843L, 281474976710656L}};
    for (long[] d : due) {
      Due.is("seen above " + d[0] + " " + d[1], x.seen((int) d[0], (int) d[1], 0), d[2]);
      Due.is("seen below " + d[0] + " " + d[1], x.seen((int) d[0], (int) d[1], 1), d[3]);
    }
    Due.illegal("seen n -1", () -> x.seen(-1, 0, 0));
    Due.illegal("seen n 13", () -> x.seen(13, 0, 0));
    Due.illegal("seen q -1", () -> x.seen(2, -1, 0));
    Due.illegal("seen q 17", () -> x.seen(2, 17, 0));
    Due.illegal("seen part 2", () -> x.seen(2, 2, 2));
    Due.illegal("seen part -1", () -> x.seen(2, 2, -1));
  }

  private static void rests(BeliefRiver x, int d, int... due) {
    for (int k = 0; k < 3; k++) Due.is("leaders " + d + " " + k, x.leaders(d, k), due[k]);
  }

  private static void leading() {
    BeliefRiver x = Due.of(LAND);
    rests(x, 0, 1, 202, 2);
    Due.law(x, "0");
    rests(x, 30, 4, 101, 0);
    Due.law(x, "belief-8"); // to 1 only if both say so, to 2 only if both do
    rests(x, 5, 2, 101, 2);
    Due.law(x, "9-doubt*3-near*9+to*9"); // they are near nothing
    Due.is("elsewhere", x.pull(0, 2), 18);
    rests(x, 1, 1, 202, 2);
    // To 1 by 3 whatever is said, to 2 by 21, 3 or -15: alike ones go to 1, so both rest there.
    Due.law(x, "belief*(to-1)-doubt*(to-1)+(2-to)*3");
    rests(x, 9, 1, 101, 2);
    Due.is("nothing is changed", x.told(2) + x.told(8), 3);
    // Whoever says 1 sends it to 2: by (1, 1) both have nothing, and by saying 2 one has 2.
    Due.law(x, "(to-1)*(belief*0+1)+(2-to)*(0-belief)+(to-1)*doubt");
    rests(x, 7, 1, 202, 2);
    Due.is("without ditches at the spring", Due.of(APART).leaders(3, 0), 0);
    Due.is("first of none", Due.of(APART).leaders(3, 1), -1);
    Due.is("gain of none", Due.of(APART).leaders(3, 2), 0);
    // It goes to 1 if they say the same, to 2 if not: all but (1, 1) rest.
    BeliefRiver y = Due.of("place 0;place 0;place 0;ditch 0 1;ditch 0 2;", "(to-1)*(2-(belief-doubt)*(belief-doubt))+(2-to)");
    rests(y, 1, 3, 102, 2);
    Due.illegal("leaders -1", () -> x.leaders(-1, 0));
    Due.illegal("leaders 31", () -> x.leaders(31, 0));
    Due.illegal("leaders what 3", () -> x.leaders(0, 3));
    Due.illegal("leaders what -1", () -> x.leaders(0, -1));
  }

  private static void shares() {
    BeliefRiver x = Due.of(LAND + "person 9 0;");
    int[][] due = {{0, 0, 0, 0}, {2, 0, 0, 0}, {3, 1, 1, 1}, {5, 1, 1, 1}, {6, 2, 2, 2}, {7, 2, 2, 2}, {8, 2, 3, 3}, {9, 2, 3, 4}, {13, 2, 3, 8}, {14, 2, 3, 9}, {99, 2, 3, 9}};
    for (int[] d : due) for (int p = 0; p < 3; p++) Due.is("share of " + d[0] + " for " + p, x.share(p, 7, d[0]), d[p + 1]);
    Due.is("of two", x.share(2, 5, 9), 7);
    Due.is("none of them", x.share(1, 5, 9), 0);
    Due.is("of nobody", x.share(1, 0, 9), 0);
    Due.missing("share 3, ahead of bits and n", () -> x.share(3, 99, 100));
    Due.missing("share -1", () -> x.share(-1, 1, 1));
    Due.illegal("share bits 8", () -> x.share(0, 8, 1));
    Due.illegal("share bits below 0", () -> x.share(0, -1, 1));
    Due.illegal("share n -1", () -> x.share(0, 1, -1));
    Due.illegal("share n 100", () -> x.share(0, 1, 100));
  }

  private static void uphills() {
    BeliefRiver x = Due.of(LAND);
    Due.is("none", x.uphill(), 0);
    Due.work(x, "tell 1 1 0;tell 1 3 1;"); // 1-0: -4 + 9 above 1-3: 5 - 3; 3-1: -5 + 9
    Due.is("from 1 and 3", x.uphill(), 10);
    Due.is("level is not uphill", Due.of("place 3;place 3;ditch 0 1;", "1").uphill(), 0);
  }

  private static void yearIs(BeliefRiver x, int seed, int days, int q, int... due) {
    for (int k = 0; k < 4; k++) Due.is("year " + seed + " " + days + " " + q + " " + k, x.year(seed, days, q, k), due[k]);
  }

  private static void years() {
    // What is drawn of one person, two places and 16, by seed 1: 0 0 1, 0 1 11, 0 1 4, 0 1 15, 0 0 1; by seed 2: 0 1 15.
    BeliefRiver x = Due.of(FAITH, "belief");
    yearIs(x, 1, 1, 1, 1, 1, 0, 3);
    yearIs(x, 1, 1, 2, 0, 0, 0, 1);
    yearIs(x, 1, 3, 1, 1, 1, 1, 3);
    yearIs(x, 1, 5, 1, 1, 1, 2, 3);
    yearIs(x, 1, 5, 16, 0, 0, 2, 1);
    yearIs(x, 2, 1, 16, 1, 1, 1, 3); // it walks first, and of 1 it believes nothing
    Due.is("nothing is changed", x.told(3) + x.person(0, 1), 0);
    Due.is("fewest", x.span(1, 2, 1, 2, 0, 0), 1);
    Due.is("most", x.span(1, 2, 1, 2, 1, 0), 2);
    Due.is("to 1", x.span(1, 2, 1, 2, 2, 1), 1);
    Due.is("to 0", x.span(1, 2, 1, 2, 2, 0), 2);
    BeliefRiver y = Due.of("place 5;place 1;ditch 0 1;person 1 0;");
    yearIs(y, 1, 1, 0, 1, 1, 0, 3);
    BeliefRiver z = Due.of("place 5;place 1;ditch 0 1;", "1-day/9");
    yearIs(z, 1, 8, 16, 1, 0, 0, 3);
    yearIs(z, 1, 9, 16, 0, 0, 0, 1);
    yearIs(new BeliefRiver(), 1, 96, 16, -1, 0, 0, 0);
    Due.is("seeds wrap", x.span(Integer.MAX_VALUE, 20, 96, 16, 0, 1) > 0 ? 1 : 0, 1);
    Due.illegal("year days 0", () -> x.year(1, 0, 0, 0));
    Due.illegal("year days 97", () -> x.year(1, 97, 0, 0));
    Due.illegal("year q -1", () -> x.year(1, 1, -1, 0));
    Due.illegal("year q 17", () -> x.year(1, 1, 17, 0));
    Due.illegal("year what 4", () -> x.year(1, 1, 1, 4));
    Due.illegal("year what -1", () -> x.year(1, 1, 1, -1));
    Due.illegal("span many 0", () -> x.span(1, 0, 1, 1, 0, 0));
    Due.illegal("span many 21", () -> x.span(1, 21, 1, 1, 0, 0));
    Due.illegal("span days 0", () -> x.span(1, 1, 0, 1, 0, 0));
    Due.illegal("span days 97", () -> x.span(1, 1, 97, 1, 0, 0));
    Due.illegal("span q 17", () -> x.span(1, 1, 1, 17, 0, 0));
    Due.illegal("span q -1", () -> x.span(1, 1, 1, -1, 0, 0));
    Due.illegal("span what 3", () -> x.span(1, 1, 1, 1, 3, 0));
    Due.illegal("span what -1", () -> x.span(1, 1, 1, 1, -1, 0));
    for (int what = 0; what < 3; what++) {
      int k = what;
      Due.illegal("span place 2", () -> x.span(1, 1, 1, 1, k, 2));
      Due.illegal("span place -1", () -> x.span(1, 1, 1, 1, k, -1));
    }
  }

  private static void images() {
    BeliefRiver x = Due.of(LAND);
    Due.is("restore none", x.restore(), -1);
    Due.work(x, "day;");
    Due.is("image", x.image(), 1);
    Due.work(x, "day;dig 0 1;walk 1 3;tell 0 3 1;");
    Due.is("image", x.image(), 2);
    Due.is("undo", x.undo(), 1);
    Due.is("undo", x.undo(), 0);
    Due.work(x, "walk 0 3;");
    Due.is("refused", x.told(10), 1);
    Due.is("image", x.image(), 3);
    Due.is("a fourth", x.image(), -1);
    Due.is("images", x.count(0), 3);
    Due.law(x, "7");
    Due.book(x, "0 1;");
    Due.is("restore", x.restore(), 2);
    Due.is("no refusals then", x.told(10), 0);
    Due.is("a work of it", x.count(2), 1);
    Due.is("restore", x.restore(), 1);
    Due.is("day 2", x.told(3), 2);
    Due.is("dug", x.ditch(0, 2), 1);
    Due.is("where", x.person(1, 1), 3);
    Due.is("belief", x.belief(0, 3), 1);
    Due.is("works of it", x.count(2), 2);
    Due.is("the law stays", x.pull(0, 1), 7);
    Due.is("the book stays", x.told(9), 1);
    Due.is("undo", x.undo(), 1);
    Due.is("day 1", x.told(3), 1);
    Due.is("not dug", x.ditch(0, 2), 0);
    Due.is("undo", x.undo(), 0);
    Due.is("restore", x.restore(), 0);
    Due.is("day 1", x.told(3), 1);
    Due.is("undo", x.undo(), 0);
    Due.is("day 0", x.told(3), 0);
    Due.is("restore none", x.restore(), -1);
    for (int k = 0; k < 16; k++) Due.work(x, "day;");
    Due.is("image of sixteen works", x.image(), 1);
    for (int k = 15; k >= 0; k--) x.undo();
    Due.work(x, "tell 0 0 1;");
    Due.is("restore", x.restore(), 0);
    Due.is("sixteen are there", Due.work(x, "day;"), -20);
    for (int k = 15; k >= 0; k--) {
      Due.is("undo", x.undo(), k);
      Due.is("day", x.told(3), k);
    }
  }

  private static void imagesOfWorks() {
    BeliefRiver x = Due.of(LAND);
    Due.work(x, "day;");
    Due.work(x, "dig 0 1;");
    Due.work(x, "day;");
    x.image();
    for (int k = 0; k < 3; k++) x.undo();
    Due.work(x, "walk 0 2;");
    Due.work(x, "tell 0 3 1;");
    Due.work(x, "again 3[day;];");
    Due.work(x, "again 4[dig 0 1;];");
    x.image();
    Due.is("restore the second", x.restore(), 1);
    Due.is("undo", x.undo(), 3);
    Due.is("not dug", x.ditch(0, 2), 0);
    Due.is("restore the first", x.restore(), 0);
    int[][] due = {{2, 1}, {1, 1}, {1, 0}, {0, 0}};
    for (int k = 0; k < 4; k++) {
      Due.is("day of image, undone " + k, x.told(3), due[k][0]);
      Due.is("dug of image, undone " + k, x.ditch(0, 2), due[k][1]);
      Due.is("where it was", x.person(0, 1), 0);
      Due.is("undo", x.undo(), k == 3 ? -1 : 2 - k);
    }
  }

  private static void counts() {
    BeliefRiver x = Due.of(LAND);
    Due.is("status", x.status(0) + x.status(1), 0);
    Due.missing("place", () -> x.place(9, 9));
    Due.missing("person", () -> x.person(9, 9));
    Due.illegal("told", () -> x.told(99));
    Due.illegal("span", () -> x.span(1, 1, 1, 1, 0, 9));
    Due.illegal("land", () -> x.land(1));
    Due.is("missing", x.status(0), 2);
    Due.is("illegal", x.status(1), 3);
    Due.is("status 2", x.status(2), -1);
    Due.is("status -1", x.status(-1), -1);
    x.image();
    Due.illegal("course", () -> x.course(-1));
    x.restore();
    Due.is("no image keeps it", x.status(1), 4);
    Due.land(x, LAND);
    Due.is("nor a land", x.status(1), 4);
    Due.land(x, "?");
    x.undo();
    x.restore();
    Due.is("these are not refused", x.status(0) * 10 + x.status(1), 24);
    Due.feed(x, "day;");
    Due.is("bytes", x.count(1), 20);
    Due.is("work", x.work(4), 1);
    x.image();
    x.image();
    Due.is("images", x.count(0), 2);
    Due.is("bytes", x.count(1), 0);
    Due.is("works", x.count(2), 1);
    Due.is("count 3", x.count(3), -1);
    Due.is("count -1", x.count(-1), -1);
  }

  public static void main(String[] args) {
    tolds();
    places();
    ditches();
    persons();
    blanks();
    pulls();
    woulds();
    courses();
    aheads();
    stayings();
    tellingsOf();
    silences();
    whos();
    diggings();
    ways();
    sights();
    seens();
    leading();
    shares();
    uphills();
    years();
    images();
    imagesOfWorks();
    counts();
    Due.end("AnswersTest");
  }
}
