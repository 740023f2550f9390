/** Promises 1 to 8: the TAPE, the four texts with their FAULTS, WORK being done and undone. */
public final class TextsTest {
  private static final String LAND = "place 9;place 5;place 5;place 0;ditch 0 1;ditch 0 2;ditch 1 3;ditch 2 3;"
      + "person 2 0;person 3 1;claim 1 0 2;";

  private static void newObject() {
    BeliefRiver x = new BeliefRiver();
    int[] due = {0, 0, 0, 0, 0, 0, 0, -1, 0, 0, 0};
    for (int k = 0; k < due.length; k++) Due.is("new: told " + k, x.told(k), due[k]);
    for (int k = 0; k < 3; k++) Due.is("new: count " + k, x.count(k), 0);
    Due.is("new: fault", x.fault(), -1);
    Due.is("new: default law", x.would(5, 7, 2, 6, 9, 999, 500, 11, 11), 24);
    Due.is("NONE", BeliefRiver.NONE, -1);
  }

  private static void feeding() {
    BeliefRiver x = new BeliefRiver();
    for (int k = 1; k <= 30; k++) Due.is("feed", x.feed(0, 0, 0, 0, 0), 20 * k);
    Due.is("feed beyond 600", x.feed(1, 2, 3, 4, 5), -1);
    Due.is("count stays", x.count(1), 600);
    x = new BeliefRiver();
    Due.is("feed bytes", x.feed(0x706C6163, 0x6520373B, 0x73707269, 0x6E672030, 0x3BFF8000), 20);
    Due.is("land of these", x.land(17), 1);
    Due.is("its height", x.place(0, 0), 7);
    x.feed(0x706C6163, 0x6520373B, 0x73707269, 0x6E672030, 0x3BFF8000);
    Due.is("a byte above 127", x.land(18), -9);
    Due.is("where", x.fault(), 17);
  }

  private static void landFault(int kind, int at, String text) {
    BeliefRiver x = Due.of("place 3;");
    Due.is("land '" + text + "'", Due.land(x, text), kind == 0 ? at : kind - 10);
    Due.is("fault of '" + text + "'", x.fault(), kind == 0 ? -1 : at);
    if (kind != 0) Due.is("all stays", x.place(0, 0), 3);
    Due.is("the tape is empty", x.count(1), 0);
  }

  private static void landFaults() {
    landFault(0, 0, "");
    landFault(0, 0, "   ");
    landFault(0, 2, "place0;place 060 ;  ditch 0 1 ;");
    landFault(0, 1, "place 00000000000000000000000000000000000007;");
    landFault(2, 6, "place 99999999999999999999999999999999999999;");
    landFault(2, 6, "place 4294967296;");
    landFault(2, 6, "place 61;");
    landFault(1, 0, "Place 1;");
    landFault(1, 0, "places 1;");
    landFault(1, 2, "  pla 1;");
    landFault(1, 0, "1;");
    landFault(1, 0, ";");
    landFault(1, 8, "place 1;;");
    landFault(1, 5, "place;");
    landFault(1, 6, "place -1;");
    landFault(1, 5, "place");
    landFault(1, 8, "place   ");
    landFault(1, 7, "place 1");
    landFault(1, 9, "place 1  ");
    landFault(1, 7, "place 1x;");
    landFault(1, 8, "place 1 1;");
    landFault(1, 7, "place 1\t;");
    String two = "place 1;place 1;";
    landFault(2, 22, two + "ditch 2 0;");
    landFault(2, 24, two + "ditch 0 2;");
    landFault(2, 24, two + "ditch 1 1;");
    landFault(2, 34, two + "ditch 0 1;ditch 0 1;");
    landFault(2, 34, two + "ditch 0 1;ditch 1 0;");
    landFault(1, 24, two + "ditch 01;");
    landFault(2, 23, two + "person 0 1;");
    landFault(2, 23, two + "person 10 1;");
    landFault(2, 25, two + "person 9 2;");
    landFault(2, 22, two + "claim 0 0 1;");
    String more = two + "place 1;ditch 0 1;person 4 2;";
    landFault(0, 3, more + "claim 0 1 0;");
    landFault(2, 51, more + "claim 1 1 0;");
    landFault(2, 53, more + "claim 0 3 0;");
    landFault(2, 55, more + "claim 0 1 3;");
    landFault(2, 55, more + "claim 0 1 2;");
    landFault(2, 55, more + "claim 0 1 1;");
    landFault(2, 7, "spring 0;");
    landFault(2, 15, "place 1;spring 1;");
  }

  private static void landLimits() {
    String twelve = "place 1;".repeat(12);
    landFault(0, 12, twelve);
    landFault(3, 96, twelve + "place 1;");
    landFault(3, 98, twelve + "  place");
    landFault(1, 96, twelve + "placed 1;");
    landFault(2, 118, twelve + "person 1 11;claim0 11 12;");
    landFault(2, 105, twelve + "ditch 11 12;");
    StringBuilder ditches = new StringBuilder();
    int made = 0;
    for (int a = 0; a < 11 && made < 16; a++, made++) ditches.append("ditch ").append(a).append(' ').append(a + 1).append(';');
    for (int a = 0; made < 16; a++, made++) ditches.append("ditch ").append(a).append(' ').append(a + 2).append(';');
    String sixteen = twelve + ditches;
    landFault(0, 12, sixteen);
    landFault(3, sixteen.length(), sixteen + "ditch 99 99;");
    String six = "place 1;" + "person 1 0;".repeat(6);
    landFault(0, 1, six);
    landFault(3, six.length(), six + "person 1 0;");
    String sixty = "place 1;" + "spring0;".repeat(59);
    landFault(0, 1, sixty);
    landFault(0, 1, sixty + "  ");
    landFault(3, 480, sixty + "spring0;");
    landFault(3, 480, sixty + "claim");
    landFault(1, 480, sixty + "clam");
    landFault(1, 481, sixty + " ;");
    landFault(2, 486, sixty.replaceFirst("spring0;", "        ") + "spring1;");
  }

  private static void landing() {
    BeliefRiver x = new BeliefRiver();
    Due.feed(x, "place 7;");
    Due.illegal("land -1", () -> x.land(-1));
    Due.illegal("land beyond the tape", () -> x.land(21));
    Due.is("the tape stays", x.count(1), 20);
    Due.is("land", x.land(8), 1);
    Due.is("the tape is empty", x.count(1), 0);
    Due.land(x, LAND);
    Due.law(x, "7");
    Due.book(x, "0 1;");
    Due.work(x, "day;walk 0 3;");
    x.image();
    Due.is("a refused step", x.told(10), 1);
    Due.is("a fault in a land", Due.land(x, "place;"), -9);
    Due.is("the law stays", x.pull(0, 1), 7);
    Due.is("the book stays", x.told(9), 1);
    Due.is("the day stays", x.told(3), 1);
    Due.is("images stay", x.count(0), 1);
    Due.is("works stay", x.count(2), 1);
    Due.is("refusals stay", x.told(10), 1);
    Due.is("a land once more", Due.land(x, LAND), 4);
    Due.is("no law", x.pull(0, 1), 1);
    Due.is("no book", x.told(9), 0);
    Due.is("day 0", x.told(3), 0);
    Due.is("no images", x.count(0), 0);
    Due.is("nothing to undo", x.count(2), 0);
    Due.is("undo", x.undo(), -1);
    Due.is("restore", x.restore(), -1);
    Due.is("no refusals", x.told(10), 0);
    Due.is("the last claim counts", Due.land(x, LAND + "claim 1 0 1;spring 3;spring 1;"), 4);
    Due.is("belief", x.belief(1, 0), 1);
    Due.is("the last spring counts", x.told(4), 1);
  }

  private static void lawFault(int kind, int at, String text) {
    BeliefRiver x = Due.of("place 3;", "77");
    Due.is("law '" + text + "'", Due.law(x, text), kind - 10);
    Due.is("fault of '" + text + "'", x.fault(), at);
    Due.is("the law stays", x.would(0, 0, 0, 0, 0, 0, 0, 0, 0), 77);
    Due.is("the tape is empty", x.count(1), 0);
  }

  private static void lawFaults() {
    lawFault(1, 0, "");
    lawFault(1, 3, "   ");
    lawFault(1, 0, "falls");
    lawFault(1, 0, "Fall");
    lawFault(1, 0, "+1");
    lawFault(1, 0, "-1");
    lawFault(1, 1, "1)");
    lawFault(1, 2, "1 2");
    lawFault(1, 1, "1fall");
    lawFault(1, 5, "fall belief");
    lawFault(1, 2, "1+");
    lawFault(1, 3, "1+ ");
    lawFault(1, 2, "1+*2");
    lawFault(1, 1, "()");
    lawFault(1, 2, "(1");
    lawFault(1, 2, "(1]");
    lawFault(1, 5, "least(1,2)");
    lawFault(1, 7, "least[1]");
    lawFault(1, 9, "least[1,2");
    lawFault(1, 9, "least[1,2)");
    lawFault(1, 9, "least[1,2,3]");
    lawFault(1, 5, "most[,1]");
    lawFault(1, 4, "fall;");
    lawFault(2, 0, "1000");
    lawFault(2, 4, "1 + 12345678901234567890");
    lawFault(3, 6, "(((((((1)))))))");
    lawFault(3, 6, "(((((((");
    String six = "least[most[(least[most[(";
    lawFault(1, six.length(), six);
    lawFault(3, six.length(), six + "(");
    lawFault(3, six.length() + 1, six + " least");
    lawFault(3, six.length(), six + "most[1,2]");
    lawFault(1, six.length(), six + "mosts");
    lawFault(3, six.length() + 2, six + "1+(1)");
    String behind = "least[1,most[1,(least[1,most[1,(";
    lawFault(1, behind.length(), behind);
    lawFault(3, behind.length(), behind + "(1");
    lawFault(3, behind.length(), behind + "least[");
    BeliefRiver x = new BeliefRiver();
    Due.feed(x, "1".repeat(200));
    Due.illegal("law beyond 150", () -> x.law(151));
    Due.illegal("law -1", () -> x.law(-1));
    Due.is("the tape stays", x.count(1), 200);
    Due.is("law of 150 bytes", x.law(150), -8);
    Due.illegal("law beyond the tape", () -> x.law(1));
    Due.is("150 bytes", Due.law(x, "1+".repeat(74) + "01"), 1);
    Due.is("its draw", x.would(0, 0, 0, 0, 0, 0, 0, 0, 0), 75);
  }

  private static void draws(int due, String law) {
    BeliefRiver x = new BeliefRiver();
    Due.is("law '" + law + "'", Due.law(x, law), 1);
    Due.is("draw by '" + law + "'", x.would(-7, 11, 12, 3, 4, 13, 14, 5, 6), due);
  }

  private static void lawDraws() {
    draws(-7, "fall");
    draws(11, "belief");
    draws(12, "doubt");
    draws(3, "near");
    draws(4, "dug");
    draws(13, "ran");
    draws(14, "day");
    draws(5, "from");
    draws(6, " to ");
    draws(99, "999");
    draws(99, "100");
    draws(98, "098");
    draws(-99, "0-100");
    draws(-98, "0-98");
    draws(5, "10-3-2");
    draws(14, "2+3*4");
    draws(20, "(2+3)*4");
    draws(20, "( 2 + 3 ) * 4");
    draws(2, "8/2/2");
    draws(3, "100/10%7");
    draws(-3, "fall/2");
    draws(-1, "fall%2");
    draws(1, "7%(0-2)");
    draws(0, "7/0");
    draws(0, "7%0");
    draws(9, "9+fall/(dug-4)");
    draws(-7, "least[fall,to]");
    draws(6, "most [ fall , to ]");
    draws(2, "least[most[1,2],most[3,least[4,5]]]");
    draws(1, "((((((1))))))");
    draws(2, "((((((1))))))+(((((1)))))");
    draws(-99, "999*999*999*2+999*999*200"); // 2,193,606,198 wraps below 0
    draws(-1, "999*999*999*999%2"); // its low 32 bits are odd and below 0
    draws(-99, "(0-512*512*512*8*2)/(0-1)"); // the least int by -1 is itself
    draws(0, "(0-512*512*512*8*2)%(0-1)");
  }

  private static void workFault(int kind, int at, String text) {
    BeliefRiver x = Due.of(LAND);
    Due.is("work '" + text + "'", Due.work(x, text), kind - 10);
    Due.is("fault of '" + text + "'", x.fault(), at);
    Due.is("none is done", x.told(3), 0);
    Due.is("none can be undone", x.count(2), 0);
    Due.is("the tape is empty", x.count(1), 0);
  }

  private static void workFaults() {
    workFault(1, 4, "day;days;");
    workFault(1, 4, "day;dayz;");
    workFault(1, 4, "day;aday;");
    workFault(1, 7, "day;day");
    workFault(1, 4, "day;]");
    workFault(1, 4, "day;;");
    workFault(1, 4, "day 1;");
    workFault(1, 4, "day;Day;");
    workFault(2, 9, "day;tell 2 0 1;");
    workFault(2, 11, "day;tell 1 4 1;");
    workFault(2, 13, "day;tell 1 0 3;");
    workFault(2, 13, "day;tell 1 0 0;");
    workFault(2, 13, "day;tell 1 0 4;");
    workFault(1, 12, "day;tell 1 0;");
    workFault(2, 11, "day;forget 2 0;");
    workFault(2, 13, "day;forget 1 4;");
    workFault(1, 14, "day;forget 1 3x;");
    workFault(2, 9, "day;walk 2 0;");
    workFault(2, 11, "day;walk 0 4;");
    workFault(2, 8, "day;dig 4 0;");
    workFault(2, 10, "day;dig 0 3;");
    workFault(2, 10, "day;dig 0 0;");
    workFault(2, 10, "day;again 61 [];");
    workFault(1, 13, "day;again 60 (day;);");
    workFault(1, 18, "day;again 60 [day;");
    workFault(1, 17, "day;again 60 [day];");
    workFault(1, 15, "day;again 60 []");
    workFault(1, 10, "day;again [];");
    String six = "day;" + "again 2[".repeat(6);
    workFault(1, six.length(), six);
    workFault(3, six.length(), six + "again");
    workFault(3, six.length() + 4, six + "day;again 99");
    workFault(1, six.length(), six + "agains");
    BeliefRiver x = Due.of(LAND);
    Due.feed(x, "day;".repeat(45));
    Due.illegal("work beyond 150", () -> x.work(151));
    Due.illegal("work -1", () -> x.work(-1));
    Due.is("the tape stays", x.count(1), 180);
    Due.is("work of 148", x.work(148), 37);
    Due.illegal("work beyond the tape", () -> x.work(1));
  }

  private static void working() {
    BeliefRiver x = Due.of(LAND);
    Due.is("nothing", Due.work(x, ""), 0);
    Due.is("it counts as one", x.count(2), 1);
    Due.is("tell", Due.work(x, "tell 0 0 1;tell 0 0 1;tell 0 0 2;tell 1 0 2;"), 2);
    Due.is("refused", x.told(10), 2);
    Due.is("belief", x.belief(0, 0), 2);
    Due.is("forget", Due.work(x, "forget 0 0;forget 0 0;forget 0 3;"), 1);
    Due.is("refused", x.told(10), 2);
    Due.is("belief", x.belief(0, 0), -1);
    Due.is("walk", Due.work(x, "walk 0 3;walk 0 0;walk 0 1;walk 0 3;"), 2);
    Due.is("refused", x.told(10), 2);
    Due.is("where", x.person(0, 1), 3);
    Due.is("dig", Due.work(x, "again 7[dig 1 3;];dig 3 1;again 3[dig 1 3;];"), 9);
    Due.is("refused", x.told(10), 2);
    Due.is("dug", x.ditch(2, 2), 9);
    Due.is("not dug", x.ditch(0, 2), 0);
    Due.is("a fault", Due.work(x, "walk 0 3;dig 1 1;"), -8);
    Due.is("refused as ahead of it", x.told(10), 2);
    // 0 to 2 to 3: person 0 in 3 and person 1 in 1 learn nothing.
    Due.is("days", Due.work(x, "day;day;"), 2);
    Due.is("believed", x.told(8), 1);
    Due.is("ran 0 2", x.ditch(1, 3), 2);
    Due.is("ran 2 3", x.ditch(3, 3), 2);
    Due.is("ran 0 1", x.ditch(0, 3), 0);
    Due.is("day", x.told(3), 2);
    Due.is("learning", Due.work(x, "walk 0 2;day;walk 0 0;walk 1 3;day;"), 5);
    Due.is("in 2 it was seen", x.belief(0, 2), 3);
    Due.is("in 0 too", x.belief(0, 0), 2);
    Due.is("where it ends none is", x.belief(1, 3), -1);
  }

  private static void learningInCircles() {
    // By 'to + 1' it goes 0, 2, 1 and from 1 would go on to 2, where it came ahead: 1 is its end.
    BeliefRiver x = Due.of("place 1;place 1;place 1;ditch 0 1;ditch 1 2;ditch 2 0;person 1 1;person 1 2;", "to+1");
    Due.is("course", x.told(5), 3);
    Due.is("end", x.told(7), 1);
    Due.is("day", Due.work(x, "day;"), 1);
    Due.is("from the end it does not go on", x.belief(0, 1), -1);
    Due.is("from 2 it does", x.belief(1, 2), 1);
    Due.is("ran along 1 2 once", x.ditch(1, 3), 1);
  }

  private static void loops() {
    BeliefRiver x = Due.of(LAND);
    Due.is("again in again", Due.work(x, "again 3[day;again 2[day;];];"), 9);
    Due.is("days", x.told(3), 9);
    Due.is("none", Due.work(x, "again 0[day;];again 60[];"), 0);
    Due.is("200 begun", Due.work(x, "again 20[again 20[walk 0 0;];];day;"), 0);
    Due.is("refused of these", x.told(10), 189);
    // 1 and 33 times 6 are 199.
    Due.is("the 200th is begun, the next not", Due.work(x, "again 33[again 5[day;];];day;day;"), 166);
    Due.is("days", x.told(3), 175);
    Due.is("six deep", Due.work(x, "again 1[again 1[again 1[again 1[again 1[again 2[day;];];];];];];"), 2);
    x = Due.of(LAND);
    for (int k = 0; k < 3; k++) Due.work(x, "again 60[day;];again 60[day;];again 47[day;];");
    Due.is("day 500", x.told(3), 500);
    Due.is("refused on it", x.told(10), 1);
    Due.is("and later", Due.work(x, "day;"), 0);
    Due.is("ran", x.ditch(1, 3), 500);
  }

  private static void sixteenWorks() {
    BeliefRiver x = Due.of(LAND);
    for (int k = 1; k <= 16; k++) Due.is("work", Due.work(x, "day;dig 0 1;"), k <= 9 ? 2 : 1);
    Due.work(x, "days");
    Due.is("a 17th", Due.work(x, "day;"), -20);
    Due.is("a 17th with a fault", Due.work(x, "days;"), -20);
    Due.is("no fault", x.fault(), -1);
    Due.is("the tape is empty", x.count(1), 0);
    Due.illegal("a 17th beyond the tape", () -> x.work(1));
    Due.is("the day", x.told(3), 16);
    Due.is("refused by the latest", x.told(10), 1);
    Due.is("undo", x.undo(), 15);
    Due.is("refused", x.told(10), 0);
    Due.is("the day", x.told(3), 15);
    Due.is("once more", Due.work(x, "day;"), 1);
    for (int k = 15; k >= 0; k--) Due.is("undo", x.undo(), k);
    Due.is("undo none", x.undo(), -1);
    Due.is("the day", x.told(3), 0);
    Due.is("dug", x.ditch(0, 2), 0);
    Due.is("ran", x.ditch(1, 3), 0);
  }

  private static void undoing() {
    BeliefRiver x = Due.of(LAND);
    Due.work(x, "tell 0 0 1;forget 1 0;walk 1 3;");
    Due.work(x, "dig 2 3;day;");
    Due.is("all is changed", x.belief(0, 0) * 10000 + x.person(1, 1) * 100 + x.ditch(3, 2) * 10 + x.told(3), 10311);
    Due.is("undo", x.undo(), 1);
    Due.is("not dug", x.ditch(3, 2), 0);
    Due.is("day 0", x.told(3), 0);
    Due.is("still told", x.belief(0, 0), 1);
    Due.is("undo", x.undo(), 0);
    Due.is("not told", x.belief(0, 0), -1);
    Due.is("not forgotten", x.belief(1, 0), 2);
    Due.is("not walked", x.person(1, 1), 1);
  }

  private static void bookFault(int kind, int at, String text) {
    BeliefRiver x = Due.of(LAND);
    Due.book(x, "3 1;");
    Due.is("book '" + text + "'", Due.book(x, text), kind - 10);
    Due.is("fault of '" + text + "'", x.fault(), at);
    Due.is("the book stays", x.told(9), 1);
    Due.is("the tape is empty", x.count(1), 0);
  }

  private static void books() {
    bookFault(2, 0, "4 1;");
    bookFault(2, 2, "0 4;");
    bookFault(2, 2, "0 3;");
    bookFault(2, 2, "0 0;");
    bookFault(2, 4, "0 1;0 1;");
    bookFault(2, 4, "0 1;0");
    bookFault(1, 3, "0 1");
    bookFault(1, 1, "0;");
    bookFault(1, 0, ";");
    bookFault(1, 0, "a");
    bookFault(1, 4, "0 1 2;");
    bookFault(1, 5, "0 1; -");
    BeliefRiver x = Due.of(LAND);
    Due.is("book", Due.book(x, " 0 2 ; 3 1;1 0;  2 3;  "), 4);
    Due.is("lines", x.told(9), 4);
    Due.is("empty", Due.book(x, ""), 0);
    Due.is("lines", x.told(9), 0);
    Due.feed(x, " ".repeat(70));
    Due.illegal("book beyond 60", () -> x.book(61));
    Due.illegal("book -1", () -> x.book(-1));
    Due.is("book of 60", x.book(60), 0);
    Due.illegal("book beyond the tape", () -> x.book(1));
  }

  private static void faults() {
    BeliefRiver x = new BeliefRiver();
    Due.is("none", x.fault(), -1);
    Due.law(x, "1+x");
    Due.is("of the latest", x.fault(), 2);
    Due.illegal("a text not there", () -> x.law(3));
    Due.is("stays", x.fault(), 2);
    Due.land(x, "place x");
    Due.is("of the latest", x.fault(), 6);
    Due.book(x, "");
    Due.is("none", x.fault(), -1);
  }

  public static void main(String[] args) {
    newObject();
    feeding();
    landFaults();
    landLimits();
    landing();
    lawFaults();
    lawDraws();
    workFaults();
    working();
    learningInCircles();
    loops();
    sixteenWorks();
    undoing();
    books();
    faults();
    Due.end("TextsTest");
  }
}
