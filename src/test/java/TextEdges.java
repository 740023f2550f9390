/** The edges of the texts: the first part of the terms, and promises 1 to 7. */
final class TextEdges {
  private static final String TWELVE = "place 1;".repeat(12);
  private static final String TWO = "place 1;place 1;";

  private TextEdges() { }

  static void run() {
    lands();
    clauses();
    places();
    ditches();
    persons();
    claims();
    springs();
    laws();
    lawWords();
    lawValues();
    works();
    books();
    signs();
    firstFaults();
    numbersThatAreNoneSuch();
    tooMany();
    newObject();
    feeding();
    landing();
    lawing();
    working();
    booking();
    faults();
  }

  private static void lands() {
    Sentences.hold("A LAND is a text of up to 600 bytes: { CLAUSE \";\" }, at most 60.");
    Edge.landIs(0, "");
    Edge.landIs(0, " ".repeat(600));
    BeliefRiver x = Edge.landIs(1, " ".repeat(592) + "place 7;");
    Due.is("the 600th byte is read", x.place(0, 0), 7);
    Edge.landFails(1, " ".repeat(592) + "place 7^");
    Edge.landFails(1, " ".repeat(592) + "place 7^:");
    String sixty = "place 1;" + "spring0;".repeat(59);
    Edge.landIs(1, sixty);
    Edge.landIs(1, sixty + "   ");
    for (String word : new String[] {"place 1;", "ditch 0 1;", "person 1 0;", "claim 0 0 0;", "spring 0;"}) {
      Edge.landFails(3, sixty + "^" + word);
      Edge.landFails(3, sixty + "  ^" + word + "place 1;");
    }
    Edge.landFails(1, sixty + "^;");
    Edge.landFails(1, "^;");
    Edge.landFails(1, "place 1;^;");
    Edge.landFails(1, "place 1^");
    Edge.landFails(1, "place 1 ^place 1;");
  }

  private static void clauses() {
    Sentences.hold("CLAUSE:");
    Edge.landIs(2, TWO + "ditch 0 1;person 1 0;claim 0 0 1;spring 1;");
    for (String word : new String[] {"places", "plac", "pace", "ditches", "dit", "persons", "claims", "springs", "sprin", "spri ng", "well", "a", "z"}) {
      Edge.landFails(1, "place 1;^" + word + " 0 0 0;");
    }
    for (String word : new String[] {"place", "ditch", "person", "claim", "spring"}) {
      for (int k = 0; k < word.length(); k++) {
        Edge.landFails(1, "^" + word.substring(0, k) + 'x' + word.substring(k + 1) + " 0 0 0;");
      }
    }
  }

  private static void places() {
    Sentences.hold("\"place\" H (PLACES, numbered from 0 on, 12 at most: HEIGHT H, 0 to 60),");
    BeliefRiver x = Edge.landIs(12, Edge.FULL);
    for (int a = 0; a < 12; a++) Due.is("height of " + a, x.place(a, 0), 60 - 5 * a);
    BeliefRiver y = Edge.landIs(2, "place 0;place 60;");
    Due.is("the least height", y.place(0, 0), 0);
    Due.is("the greatest height", y.place(1, 0), 60);
    Edge.landFails(2, "place ^61;");
    Edge.landFails(2, "place 60;place ^61;");
    Edge.landFails(2, "place ^600;");
    Edge.landFails(1, "place ^-1;");
    Edge.landFails(1, "place ^;");
    Edge.landIs(12, TWELVE);
    Edge.landFails(3, TWELVE + "^place 1;");
    Edge.landFails(3, TWELVE + "spring 11;^place 1;");
  }

  private static void ditches() {
    Sentences.hold("\"ditch\" A B (DITCHES likewise, 16: between PLACES A and B, both told ahead, not one, not two that a DITCH is between),");
    BeliefRiver x = Edge.landIs(12, Edge.FULL);
    Due.is("sixteen", x.told(1), 16);
    int[][] ends = {{0, 1}, {1, 2}, {2, 3}, {3, 4}, {4, 5}, {5, 6}, {6, 7}, {7, 8}, {8, 9}, {9, 10}, {10, 11}, {0, 2}, {0, 3}, {0, 4}, {9, 11}, {8, 11}};
    for (int d = 0; d < 16; d++) {
      Due.is("one end of " + d, x.ditch(d, 0), ends[d][0]);
      Due.is("other end of " + d, x.ditch(d, 1), ends[d][1]);
    }
    String sixteen = Edge.FULL.substring(0, Edge.FULL.indexOf("person"));
    Edge.landIs(12, sixteen);
    Edge.landFails(3, sixteen + "^ditch 1 3;");
    Edge.landFails(3, sixteen + "^ditch 0 1;");
    Edge.landFails(3, sixteen + "^ditch 12 0;");
    Edge.landIs(2, TWO + "ditch 0 1;");
    Edge.landIs(2, TWO + "ditch 1 0;");
    Edge.landFails(2, TWO + "ditch ^2 0;");
    Edge.landFails(2, TWO + "ditch 0 ^2;");
    Edge.landFails(2, TWO + "ditch 0 ^0;");
    Edge.landFails(2, TWO + "ditch 1 ^1;");
    Edge.landFails(2, TWO + "ditch 0 1;ditch 0 ^1;");
    Edge.landFails(2, TWO + "ditch 0 1;ditch 1 ^0;");
    Edge.landFails(2, "ditch ^0 1;" + TWO);
    Edge.landFails(2, "place 1;ditch 0 ^1;place 1;");
    Edge.landFails(2, "place 1;ditch ^1 0;place 1;");
    Edge.landIs(12, TWELVE + "ditch 11 10;");
    Edge.landFails(2, TWELVE + "ditch 11 ^12;");
    Edge.landFails(2, TWELVE + "ditch ^12 11;");
    Edge.landFails(1, TWO + "ditch 0^;");
    Edge.landFails(1, TWO + "ditch^;");
    Edge.landFails(1, TWO + "ditch 0 1 ^1;");
    BeliefRiver y = Edge.landIs(3, "place 1;place 2;place 3;ditch 1 2;");
    Due.is("a land's ditches end with it", Due.land(y, "place 1;place 2;place 3;ditch 1 2;ditch 2 0;"), 3);
    Due.is("no ditch of it is left", Due.land(y, "place 1;place 2;place 3;ditch 0 1;"), 3);
    Due.is("none from 2", y.place(2, 1), 0);
    Due.is("1 from 0", y.place(0, 1), 2);
    Due.is("0 from 1", y.place(1, 1), 1);
    Due.is("twelve without ditches", Due.land(x, TWELVE), 12);
    for (int a = 0; a < 12; a++) Due.is("none from " + a, x.place(a, 1), 0);
  }

  private static void persons() {
    Sentences.hold("\"person\" T A (PERSONS likewise, 6: TRUST T, 1 to 9, in PLACE A, told ahead),");
    BeliefRiver x = Edge.landIs(12, Edge.FULL);
    Due.is("six", x.told(2), 6);
    int[][] due = {{1, 0}, {2, 1}, {3, 2}, {4, 3}, {5, 4}, {9, 11}};
    for (int p = 0; p < 6; p++) for (int w = 0; w < 2; w++) Due.is("person " + p + " " + w, x.person(p, w), due[p][w]);
    String six = "place 1;" + "person 1 0;".repeat(6);
    Edge.landIs(1, six);
    Edge.landFails(3, six + "^person 1 0;");
    Edge.landFails(3, six + "^person 0 1;");
    Edge.landIs(1, "place 1;person 1 0;person 9 0;");
    Edge.landFails(2, "place 1;person ^0 0;");
    Edge.landFails(2, "place 1;person ^10 0;");
    Edge.landFails(2, "place 1;person 1 ^1;place 1;");
    Edge.landFails(2, "person 1 ^0;place 1;");
    Edge.landFails(2, TWELVE + "person 1 11;person 1 ^12;");
    Edge.landFails(1, "place 1;person 1^;");
  }

  private static void claims() {
    Sentences.hold("\"claim\" P A B (PERSON P believes that it goes from PLACE A on to B, all told ahead, a DITCH being between; of one P and A the last counts),");
    BeliefRiver x = Edge.landIs(12, Edge.FULL + "claim 0 0 4;claim 5 11 10;claim 5 10 11;claim 5 11 9;claim 5 11 8;");
    Due.is("of one the last", x.belief(5, 11), 8);
    Due.is("of another place", x.belief(5, 10), 11);
    Due.is("of another person", x.belief(0, 0), 4);
    Due.is("three in all", x.told(8), 3);
    Due.is("what was claimed ends with the land", Due.land(x, Edge.FULL), 12);
    Due.is("nothing is believed", x.told(8), 0);
    String one = TWO + "place 1;ditch 0 1;person 1 0;";
    Edge.landIs(3, one + "claim 0 0 1;claim 0 1 0;");
    Edge.landFails(2, one + "claim ^1 0 1;person 1 0;");
    Edge.landFails(2, one + "claim 0 ^3 1;place 1;");
    Edge.landFails(2, one + "claim 0 0 ^3;place 1;");
    Edge.landFails(2, one + "claim 0 0 ^2;ditch 0 2;");
    Edge.landFails(2, one + "claim 0 0 ^0;");
    Edge.landFails(2, one + "claim 0 2 ^2;");
    Edge.landFails(2, TWO + "ditch 0 1;claim ^0 0 1;");
    Edge.landFails(2, "claim ^0 0 0;");
    Edge.landFails(1, one + "claim 0 0^;");
    Edge.landFails(2, TWELVE + "person 1 0;claim 0 11 ^12;");
    Edge.landFails(2, TWELVE + "person 1 0;claim 0 ^12 11;");
    Edge.landFails(2, "place 1;" + "person 1 0;".repeat(6) + "claim ^6 0 0;");
  }

  private static void springs() {
    Sentences.hold("or \"spring\" A (in PLACE A, told ahead; PLACE 0 without; the last counts).");
    Due.is("without", Edge.landIs(2, TWO).told(4), 0);
    Due.is("with", Edge.landIs(2, TWO + "spring 1;").told(4), 1);
    Due.is("the last counts", Edge.landIs(2, TWO + "spring 1;spring 0;").told(4), 0);
    Due.is("the last counts", Edge.landIs(2, TWO + "spring 0;spring 1;").told(4), 1);
    Due.is("the last place", Edge.landIs(12, TWELVE + "spring 11;").told(4), 11);
    BeliefRiver x = Edge.landIs(2, TWO + "spring 1;");
    Due.is("a land without one", Due.land(x, TWO), 2);
    Due.is("begins in 0 once more", x.told(4), 0);
    Edge.landFails(2, TWELVE + "spring ^12;");
    Edge.landFails(2, "spring ^0;");
    Edge.landFails(2, "place 1;spring ^1;place 1;");
    Edge.landFails(1, "place 1;spring^;");
  }

  private static void laws() {
    Sentences.hold("A LAW is a text of up to 150 bytes: E, at the end nothing more; without: fall + belief * 3 - doubt.");
    Edge.lawDraws(75, "1+".repeat(74) + "01");
    Edge.lawDraws(2, " ".repeat(149) + "2");
    Edge.lawDraws(1, "1*".repeat(74) + "01");
    Edge.lawDraws(36, "(((((1+1)+1)+1)+1)+1)+" + "1+".repeat(29) + "1");
    Edge.lawFails(1, "1+".repeat(75) + "^");
    Edge.lawFails(1, "^");
    Edge.lawFails(1, " ".repeat(150) + "^");
    Edge.lawFails(1, "1 ^1");
    Edge.lawFails(1, "1^;");
    Edge.lawFails(1, "1^)");
    Edge.lawFails(1, "1^]");
    Edge.lawFails(1, "1^,1");
    Edge.lawFails(1, "fall ^to");
    Edge.lawFails(1, "1 ^(1)");
    BeliefRiver x = new BeliefRiver();
    Due.is("without", x.would(5, 7, 2, 6, 9, 999, 500, 11, 10), 24);
    Due.is("of a land, too", Due.of(Edge.SMALL).pull(0, 2), 13);
    Due.is("and its doubt", Due.of(Edge.SMALL).pull(0, 1), 1);
    Sentences.hold("DRAW of a DITCH from A to B: what comes out, -99 at least, 99 at most.");
    int[][] draws = {{98, 98}, {99, 99}, {100, 99}, {999, 99}};
    for (int[] d : draws) {
      Edge.lawDraws(d[1], String.valueOf(d[0]));
      Edge.lawDraws(-d[1], "0-" + d[0]);
      BeliefRiver y = Due.of(Edge.SMALL, String.valueOf(d[0]));
      Due.is("pull by " + d[0], y.pull(0, 1), d[1]);
      Due.law(y, "0-" + d[0]);
      Due.is("pull by -" + d[0], y.pull(0, 1), -d[1]);
    }
    Sentences.hold("E: T { + or - T }. T: U { * or / or % U }.");
    Edge.lawDraws(5, "10-3-2");
    Edge.lawDraws(14, "2+3*4");
    Edge.lawDraws(10, "20-5*2");
    Edge.lawDraws(2, "8/2/2");
    Edge.lawDraws(12, "7/2*4");
    Edge.lawDraws(1, "7%4%2");
    Edge.lawDraws(9, "7+4%2+2");
    for (String sign : new String[] {"+", "-", "*", "/", "%"}) {
      Edge.lawFails(1, "1" + sign + "^");
      Edge.lawFails(1, "1" + sign + "  ^");
      Edge.lawFails(1, "1" + sign + "^" + sign + "1");
      Edge.lawFails(1, "^" + sign + "1");
    }
    for (String sign : new String[] {"&", "|", "!", "<", "=", "~", "."}) Edge.lawFails(1, "1^" + sign + "1");
  }

  private static void lawWords() {
    Sentences.hold("U: N (0 to 999),");
    Edge.lawDraws(0, "0");
    Edge.lawDraws(49, "999-950");
    Edge.lawDraws(48, "998-950");
    Edge.lawFails(2, "^1000");
    Edge.lawFails(2, "1+^1000");
    Edge.lawFails(2, "1+(2*^9999)");
    Sentences.hold("\"fall\" (HEIGHT of A less that of B), \"belief\" (TRUST of all together who believe it goes from A to B), "
        + "\"doubt\" (of all who believe it goes from A elsewhere), \"near\" (PERSONS in A and B), \"dug\" (how often the DITCH was dug), "
        + "\"ran\" (on how many days it ran along the DITCH, whichever way), \"day\", \"from\" (A), \"to\" (B),");
    String[] words = {"fall", "belief", "doubt", "near", "dug", "ran", "day", "from", "to"};
    int[] asTold = {-7, 11, 12, 3, 4, 13, 14, 5, 6};
    for (int k = 0; k < words.length; k++) {
      Edge.lawDraws(asTold[k], words[k]);
      for (int c = 0; c < words[k].length(); c++) Edge.lawFails(1, "1+^" + words[k].substring(0, c) + "x" + words[k].substring(c + 1));
      Edge.lawFails(1, "1+^" + words[k] + "s");
      Edge.lawFails(1, "1+^" + words[k].substring(1));
    }
    pulls(words);
    Sentences.hold("\"least\" \"[\" E \",\" E \"]\", \"most\" \"[\" E \",\" E \"]\", or \"(\" E \")\".");
    for (int a = 0; a < 3; a++) {
      Edge.lawDraws(Math.min(a, 1), "least[" + a + ",1]");
      Edge.lawDraws(Math.max(a, 1), "most[" + a + ",1]");
    }
    Edge.lawDraws(5, "least[2+3,2*3]");
    Edge.lawDraws(-7, "most[fall,0-99]");
    Edge.lawDraws(21, "(1+2)*(3+4)");
    Edge.lawDraws(13, "most[1,2]+least[11,12]");
    for (String word : new String[] {"least", "most"}) {
      Edge.lawFails(1, word + "^");
      Edge.lawFails(1, word + "^(1,2)");
      Edge.lawFails(1, word + "[^]");
      Edge.lawFails(1, word + "[^,1]");
      Edge.lawFails(1, word + "[1^]");
      Edge.lawFails(1, word + "[1^;2]");
      Edge.lawFails(1, word + "[1,^]");
      Edge.lawFails(1, word + "[1,2^");
      Edge.lawFails(1, word + "[1,2^)");
      Edge.lawFails(1, word + "[1,2^,3]");
      Edge.lawFails(1, "^" + word + "s[1,2]");
    }
    Edge.lawFails(1, "(^)");
    Edge.lawFails(1, "(^");
    Edge.lawFails(1, "(1^");
    Edge.lawFails(1, "(1^]");
    Edge.lawFails(1, "^[1]");
  }

  /** The words of the law by a land of which each has another value, both ways along a DITCH. */
  private static void pulls(String[] words) {
    BeliefRiver x = Due.of("place 9;place 2;place 4;ditch 0 1;ditch 2 1;ditch 0 2;person 5 0;person 6 1;person 7 2;person 8 2;"
        + "claim 0 0 1;claim 1 0 2;claim 2 0 1;claim 3 1 0;claim 0 1 2;");
    // It goes 0 - 1 (7 + 36 - 6), and from 1 by -7 + 24 - 5 back to 0, or by -2 + 15 - 8 to 2: it ends in 1.
    Due.is("work", Due.work(x, "dig 1 0;dig 0 1;dig 2 1;again 4[day;];"), 7);
    int[] from0to1 = {7, 12, 6, 2, 2, 4, 4, 0, 1};
    int[] from1to0 = {-7, 8, 5, 2, 2, 4, 4, 1, 0};
    int[] from1to2 = {-2, 5, 8, 3, 1, 0, 4, 1, 2};
    int[] from2to1 = {2, 0, 0, 3, 1, 0, 4, 2, 1};
    for (int k = 0; k < words.length; k++) {
      Due.law(x, words[k]);
      Due.is(words[k] + " from 0 to 1", x.pull(0, 1), from0to1[k]);
      Due.is(words[k] + " from 1 to 0", x.pull(1, 0), from1to0[k]);
      Due.is(words[k] + " from 1 to 2", x.pull(1, 2), from1to2[k]);
      Due.is(words[k] + " from 2 to 1", x.pull(2, 1), from2to1[k]);
    }
  }

  private static void lawValues() {
    Sentences.hold("Values are whole numbers of 32 bits that wrap; / cuts, % leaves (with the sign of what is divided), by 0 both are 0.");
    String most = "(512*512*512*8*2-1)";
    String least = "(512*512*512*8*2)";
    Edge.lawDraws(99, most);
    Edge.lawDraws(-99, least);
    Edge.lawDraws(-99, most + "+1");
    Edge.lawDraws(99, least + "-1");
    Edge.lawDraws(0, least + "*2");
    Edge.lawDraws(-2, most + "*2");
    Edge.lawDraws(1, most + "*" + most);
    Edge.lawDraws(-99, least + "/(0-1)");
    Edge.lawDraws(0, least + "%(0-1)");
    Edge.lawDraws(-99, "0-" + least);
    Edge.lawDraws(-1, "least[" + most + "+1,0]/" + least + "-2");
    Edge.lawDraws(3, "7/2");
    Edge.lawDraws(-3, "fall/2");
    Edge.lawDraws(-3, "7/(0-2)");
    Edge.lawDraws(3, "fall/(0-2)");
    Edge.lawDraws(0, "1/2");
    Edge.lawDraws(0, "(0-1)/2");
    Edge.lawDraws(1, "7%2");
    Edge.lawDraws(-1, "fall%2");
    Edge.lawDraws(1, "7%(0-2)");
    Edge.lawDraws(-1, "fall%(0-2)");
    Edge.lawDraws(-7, "fall%8");
    Edge.lawDraws(0, "fall%7");
    Edge.lawDraws(0, "7/0");
    Edge.lawDraws(0, "7%0");
    Edge.lawDraws(0, "fall/0");
    Edge.lawDraws(0, "fall%0");
    Edge.lawDraws(0, "0/0");
    Edge.lawDraws(9, "9+7/(dug-4)");
    Edge.lawDraws(9, "9+7%(dug-4)");
    Edge.lawDraws(7, "7%1+7/1");
  }

  private static void works() {
    Sentences.hold("WORK is a text of up to 150 bytes: { STEP \";\" }.");
    Edge.workDoes(0, 0, "");
    Edge.workDoes(0, 0, " ".repeat(150));
    Edge.workDoes(37, 0, "day;".repeat(37) + "  ");
    Edge.workDoes(37, 0, "day;".repeat(36) + "  day;");
    Edge.workFails(1, "day;".repeat(37) + "^da");
    Edge.workFails(1, "day;".repeat(36) + "   day^");
    Edge.workFails(1, "day;^;");
    Edge.workFails(1, "^;");
    Edge.workFails(1, "day ^day;");
    Edge.workFails(1, "day;^]");
    Sentences.hold("STEP: \"tell\" P A B (a DITCH being between), \"forget\" P A, \"walk\" P A, \"dig\" A B (a DITCH being between), \"day\", "
        + "or \"again\" N \"[\" { STEP \";\" } \"]\" (N 0 to 60).");
    Edge.workDoes(6, 0, "tell 1 3 2;forget 1 3;walk 1 3;dig 3 2;again 1[day;];day;");
    numbersOfSteps();
    Edge.workDoes(0, 0, "again 0[day;];");
    Edge.workDoes(1, 0, "again 1[day;];");
    Edge.workDoes(59, 0, "again 59[day;];");
    Edge.workDoes(60, 0, "again 60[day;];");
    Edge.workDoes(0, 0, "again 60[];");
    Edge.workDoes(0, 0, "again 60[  ]  ;  ");
    Edge.workFails(2, "again ^61[day;];");
    Edge.workFails(2, "again 60[again ^61[day;];];");
    Edge.workFails(1, "again ^[day;];");
    Edge.workFails(1, "again 2^(day;);");
    Edge.workFails(1, "again 2^");
    Edge.workFails(1, "again 2[^");
    Edge.workFails(1, "again 2[day^];");
    Edge.workFails(1, "again 2[day;^;];");
    Edge.workFails(1, "again 2[day;^");
    Edge.workFails(1, "again 2[day;^);");
    Edge.workFails(1, "again 2[day;]^");
    Edge.workFails(1, "again 2[day;]^]");
    Edge.workFails(1, "again 2[day;] ^day;");
    for (String word : new String[] {"tell", "forget", "walk", "dig", "day", "again"}) {
      for (int k = 0; k < word.length(); k++) Edge.workFails(1, "day;^" + word.substring(0, k) + "x" + word.substring(k + 1) + " 0 0 1;");
      Edge.workFails(1, "day;^" + word + "s 0 0 1;");
      Edge.workFails(1, "day;again 2[^" + word + "s 0 0 1;];");
    }
  }

  private static void numbersOfSteps() {
    Edge.workFails(2, "day;tell ^2 0 1;");
    Edge.workFails(2, "day;tell 1 ^4 1;");
    Edge.workFails(2, "day;tell 1 0 ^4;");
    Edge.workFails(2, "day;tell 1 0 ^3;");
    Edge.workFails(2, "day;tell 1 0 ^0;");
    Edge.workFails(2, "day;forget ^2 0;");
    Edge.workFails(2, "day;forget 1 ^4;");
    Edge.workFails(2, "day;walk ^2 0;");
    Edge.workFails(2, "day;walk 1 ^4;");
    Edge.workFails(2, "day;dig ^4 0;");
    Edge.workFails(2, "day;dig 0 ^4;");
    Edge.workFails(2, "day;dig 0 ^3;");
    Edge.workFails(2, "day;dig 3 ^3;");
    Edge.workFails(1, "day;tell 1 0^;");
    Edge.workFails(1, "day;tell 1^;");
    Edge.workFails(1, "day;tell^;");
    Edge.workFails(1, "day;forget 1^;");
    Edge.workFails(1, "day;walk 1^;");
    Edge.workFails(1, "day;dig 0^;");
    Edge.workFails(1, "day;walk 1 0 ^0;");
    Edge.workFails(1, "day ^0;");
    BeliefRiver x = Due.of(Edge.FULL);
    Edge.workDoes(x, 5, 0, "tell 5 11 10;forget 5 11;walk 5 10;walk 5 11;dig 11 10;");
    Edge.workFailsOfFull(2, "tell ^6 11 10;");
    Edge.workFailsOfFull(2, "tell 5 ^12 11;");
    Edge.workFailsOfFull(2, "tell 5 11 ^12;");
    Edge.workFailsOfFull(2, "tell 5 11 ^7;");
    Edge.workFailsOfFull(2, "forget ^6 11;");
    Edge.workFailsOfFull(2, "forget 5 ^12;");
    Edge.workFailsOfFull(2, "walk ^6 11;");
    Edge.workFailsOfFull(2, "walk 5 ^12;");
    Edge.workFailsOfFull(2, "dig ^12 11;");
    Edge.workFailsOfFull(2, "dig 11 ^12;");
    Edge.workFailsOfFull(2, "dig 11 ^7;");
    BeliefRiver y = new BeliefRiver();
    Due.is("without persons", Due.work(y, "tell 0 0 0;"), -8);
    Due.is("at the person", y.fault(), 5);
    Due.is("without places", Due.work(y, "dig 0 0;"), -8);
    Due.is("at the place", y.fault(), 4);
    Due.is("without places a day goes by", Due.work(y, "day;"), 1);
  }

  private static void books() {
    Sentences.hold("A BOOK is a text of up to 60 bytes: { A B \";\" }, no A twice: from PLACE A it went on to B (a DITCH being between).");
    Edge.bookHas(0, "");
    Edge.bookHas(0, " ".repeat(60));
    Edge.bookHas(1, " ".repeat(56) + "0 1;");
    Edge.bookHas(4, "0 1;1 0;2 3;3 2;");
    Edge.bookFails(1, " ".repeat(56) + "0 1 ^");
    Edge.bookFails(1, " ".repeat(56) + "0 1^:");
    Edge.bookFails(1, "0 1;^;");
    Edge.bookFails(1, "0 1 ^1 0;");
    Edge.bookFails(1, "0^;");
    Edge.bookFails(1, "^;");
    Edge.bookFails(1, "^zero 1;");
    Edge.bookFails(2, "^4 1;");
    Edge.bookFails(2, "0 ^4;");
    Edge.bookFails(2, "0 ^3;");
    Edge.bookFails(2, "0 ^0;");
    Edge.bookFails(2, "0 1;^0 1;");
    Edge.bookFails(2, "0 1;^0 2;");
    Edge.bookFails(2, "0 1;1 0;^0 3;");
    Edge.bookFails(2, "3 1;1 0;^3 0;");
    BeliefRiver x = Due.of(Edge.FULL);
    String all = "0 1;1 2;2 3;3 4;4 5;5 6;6 7;7 8;8 9;9 10;10 11;11 10;       ";
    Due.is("60 bytes", all.length(), 60);
    Due.is("a line for each place", Due.book(x, all), 12);
    Due.is("a place too many", Due.book(x, "11 10;12 11;"), -8);
    Due.is("where", x.fault(), 6);
    Due.is("the last twice", Due.book(x, "11 10;11 9;"), -8);
    Due.is("where", x.fault(), 6);
    Due.is("all stays", x.told(9), 12);
    Due.is("once more", Due.book(x, "11 10;10 11;"), 2);
    BeliefRiver y = new BeliefRiver();
    Due.is("without places", Due.book(y, "0 1;"), -8);
    Due.is("where", y.fault(), 0);
  }

  private static void signs() {
    Sentences.hold("Numbers: digits, as many as stand there; WORDS: small letters, as many as stand there; "
        + "blanks (32) may stand ahead of all these, and at the end.");
    Due.is("no blank is needed", Edge.landIs(2, "place07;place60;ditch0 1;person9 1;claim0 1 0;spring1;").place(0, 0), 7);
    Due.is("zeros ahead", Edge.landIs(1, "place " + "0".repeat(500) + "60;").place(0, 0), 60);
    Edge.landFails(2, "place ^" + "0".repeat(500) + "61;");
    for (String far : new String[] {"99999", "100000", "100007", "2147483647", "2147483648", "2147483655", "4294967296", "4294967303", "18446744073709551616", "1" + "0".repeat(580)}) {
      Edge.landFails(2, "place ^" + far + ";");
    }
    Edge.lawFails(2, "^4294967296");
    Edge.lawFails(2, "^" + "1".repeat(149));
    Edge.workFails(2, "again ^4294967296[];");
    Edge.bookFails(2, "^4294967296 1;");
    Edge.landFails(1, "place 6 ^0;");
    Edge.landFails(1, "^pl ace 6;");
    Edge.landFails(1, "^placeplace 6;");
    Edge.landFails(1, "place 6^x;");
    Edge.lawFails(1, "^fallto");
    Edge.lawFails(1, "1 ^0");
    Edge.workFails(1, "^dayday;");
    for (char letter = 'a'; letter <= 'z'; letter++) Edge.workFails(1, "^day" + letter + ";");
    Edge.landIs(2, "  place  7  ;  place  6  ;  ditch  0  1  ;  person  9  1  ;  claim  0  1  0  ;  spring  1  ;  ");
    Edge.lawDraws(26, "  least  [  fall  ,  most  [  1  ,  2  ]  ]  +  (  3  *  belief  )  ");
    Edge.workDoes(6, 0, "  tell  1  3  2  ;  forget  1  3  ;  again  2  [  day  ;  ]  ;  dig  0  1  ;  walk  1  0  ;  ");
    Edge.bookHas(2, "  0  1  ;  1  0  ;  ");
    int[] others = {0, 9, 10, 13, 31, 33, 96, 123, 127, 128, 160, 255};
    for (int sign : others) {
      Edge.landFails(1, "place 6;^" + (char) sign);
      Edge.landFails(1, "place^" + (char) sign + "6;");
      Edge.landFails(1, "place 6^" + (char) sign + ";");
      Edge.landFails(1, "^" + (char) sign);
      Edge.lawFails(1, "1+^" + (char) sign + "1");
      Edge.lawFails(1, "1^" + (char) sign);
      Edge.workFails(1, "day^" + (char) sign + ";");
      Edge.workFails(1, "^" + (char) sign + "day;");
      Edge.bookFails(1, "0^" + (char) sign + "1;");
      Edge.bookFails(1, "0 1;^" + (char) sign);
    }
    for (char sign : new char[] {'A', 'Z', '@', '[', '`', '{', '/', ':'}) {
      Edge.landFails(1, "^" + sign + "place 1;");
      Edge.landFails(1, "place ^" + sign + "1;");
      Edge.landFails(1, "place^" + sign + " 1;");
      Edge.workFails(1, "day^" + sign + ";");
    }
    Edge.landFails(1, "^Place 1;");
    Edge.landFails(1, "^PLACE 1;");
    Edge.landFails(1, "^plAce 1;");
    Edge.landFails(1, "^pl~ace 1;");
    Edge.lawFails(1, "^Fall");
    Edge.workFails(1, "^Day;");
  }

  private static void firstFaults() {
    Sentences.hold("FAULTS, the first from the left, at its first byte: 1 what can't stand there (at the length, if the text ends too early);");
    Edge.landFails(2, "place ^61;place x;");
    Edge.landFails(1, "place ^x;place 61;");
    Edge.landFails(2, "place ^61");
    Edge.landFails(2, "place ^61x");
    Edge.landFails(2, "place   ^0061 ?");
    Edge.landFails(2, TWO + "ditch ^2 2;");
    Edge.landFails(2, TWO + "person ^0 9;");
    Edge.landFails(2, TWO + "ditch 0 ^0");
    Edge.landFails(1, "place 1;^x;place 61;");
    Edge.landFails(1, "^p");
    Edge.landFails(1, "place^");
    Edge.landFails(1, "place    ^");
    Edge.landFails(1, "place 6^");
    Edge.landFails(1, "place 6  ^");
    Edge.landFails(1, TWO + "ditch 0^");
    Edge.landFails(1, TWO + "ditch 0 1^");
    Edge.landFails(1, TWO + "person 9^");
    Edge.landFails(1, TWO + "ditch 0 1;person 9 0;claim 0 0^");
    Edge.landFails(1, TWO + "spring^");
    Edge.lawFails(2, "^1000+x");
    Edge.lawFails(1, "^x+1000");
    Edge.lawFails(1, "1+^");
    Edge.lawFails(1, "1+   ^");
    Edge.lawFails(1, "least   ^");
    Edge.lawFails(1, "least[1   ^");
    Edge.lawFails(1, "least[1,   ^");
    Edge.lawFails(1, "(1+1   ^");
    Edge.workFails(2, "walk ^2 9;");
    Edge.workFails(2, "walk ^2");
    Edge.workFails(2, "walk 1 ^9;x;");
    Edge.workFails(1, "^x;walk 1 9;");
    Edge.workFails(1, "walk   ^");
    Edge.workFails(1, "walk 1   ^");
    Edge.workFails(1, "walk 1 0   ^");
    Edge.workFails(1, "again   ^");
    Edge.workFails(1, "again 1   ^");
    Edge.workFails(1, "again 1[   ^");
    Edge.workFails(1, "again 1[]   ^");
    Edge.bookFails(2, "^9 9;x");
    Edge.bookFails(1, "0 ^x;9");
    Edge.bookFails(1, "0   ^");
    Edge.bookFails(1, "0 1   ^");
    BeliefRiver x = new BeliefRiver();
    Due.feed(x, "place 6;");
    Due.is("the length is n, not the tape's", x.land(7), -9);
    Due.is("where", x.fault(), 7);
    Due.feed(x, "1+1");
    Due.is("of a law, too", x.law(2), -9);
    Due.is("where", x.fault(), 2);
    Due.feed(x, "place 60;");
    Due.is("a number ends at n", x.land(7), -9);
    Due.is("where", x.fault(), 7);
    Due.feed(x, "places 6;");
    Due.is("a word ends at n", x.land(5), -9);
    Due.is("where", x.fault(), 5);
  }

  private static void numbersThatAreNoneSuch() {
    Sentences.hold("2 a number that is none such (B of a ditch as A, or one that a DITCH is between with A; B of the others, if no DITCH is between; an A twice in a BOOK);");
    Edge.landFails(2, TWO + "ditch 0 ^0;");
    Edge.landFails(2, TWO + "ditch 0   ^0000;");
    Edge.landFails(2, TWO + "ditch 1 0;ditch 0 ^1;");
    Edge.landFails(2, TWO + "person 1 0;claim 0 0 ^1;");
    Edge.landFails(2, TWO + "ditch 0 1;person 1 0;claim 0 1 ^1;");
    Edge.workFails(2, "tell 0 1 ^2;");
    Edge.workFails(2, "dig 1 ^2;");
    Edge.workFails(2, "again 3[dig 1 ^2;];");
    Edge.bookFails(2, "1 ^2;");
    Edge.bookFails(2, "0 1;2 3;^2 0;");
    Edge.bookFails(2, "0 1;  ^00 2;");
    Edge.bookFails(2, "0 1;^0");
  }

  private static void tooMany() {
    Sentences.hold("3 a CLAUSE, PLACE, DITCH or PERSON (at its word), or a 7th of ( least most again that is open at one time; of one the least.");
    String sixty = "place 1;" + "spring0;".repeat(59);
    Edge.landFails(3, sixty + "  ^spring");
    Edge.landFails(3, sixty + "^spring 9;");
    Edge.landFails(3, TWELVE + "  ^place");
    Edge.landFails(3, TWELVE + "^place 61;");
    Edge.landFails(3, TWELVE + "^place x;");
    Edge.landFails(3, "place 1;" + "person 1 0;".repeat(6) + "^person");
    Edge.landFails(1, sixty + "^sprin");
    Edge.landFails(1, sixty + "^0");
    Edge.landFails(1, TWELVE + "^placed 1;");
    Edge.lawDraws(1, "((((((1))))))");
    Edge.lawDraws(3, "((((((1))))))+((((((2))))))");
    Edge.lawDraws(3, "(((((1+(2))))))");
    Edge.lawFails(3, "((((((^(1)))))))");
    Edge.lawFails(3, "((((((^(");
    Edge.lawFails(3, "((((((  ^(");
    Edge.lawFails(3, "((((((1+^(2)))))))");
    Edge.lawFails(3, "((((((1)))))+(((((2)+(^(3");
    Edge.lawDraws(1, "least[1,".repeat(6) + "2" + "]".repeat(6));
    Edge.lawDraws(2, "most[".repeat(6) + "1" + ",2]".repeat(6));
    Edge.lawFails(3, "least[1,".repeat(6) + "^least[");
    Edge.lawFails(3, "most[".repeat(6) + "^most[1,2]");
    Edge.lawFails(3, "least[1,".repeat(6) + "  ^most");
    Edge.lawFails(3, "(least[1,(most[1,(least[^(");
    Edge.lawFails(1, "(least[1,(most[1,(least[^mosts");
    Edge.lawFails(1, "((((((^)");
    Edge.workDoes(2, 0, "again 1[again 1[again 1[again 1[again 1[again 2[day;];];];];];];");
    Edge.workDoes(4, 0, "again 2[again 1[again 1[again 1[again 1[again 1[day;];];];];];];again 1[again 2[day;];];");
    Edge.workFails(3, "again 1[".repeat(6) + "^again 1[day;]" + ";]".repeat(6) + ";");
    Edge.workFails(3, "again 1[".repeat(6) + "^again");
    Edge.workFails(3, "again 1[".repeat(6) + "day;  ^again 61");
    Edge.workFails(3, "again 0[".repeat(6) + "^again");
    Edge.workFails(1, "again 1[".repeat(6) + "^agains");
  }

  private static void newObject() {
    Sentences.hold("A LAND without CLAUSES.");
    BeliefRiver x = new BeliefRiver();
    String fresh = Edge.picture(x);
    Edge.same("as a land of nothing", Edge.picture(Edge.landIs(0, "")), fresh);
    Due.is("no fault", x.fault(), -1);
    Due.is("nothing fed", x.count(1), 0);
    Due.is("nothing refused", x.status(0) + x.status(1), 0);
    Due.is("nothing to undo", x.undo(), -1);
    Due.is("no image", x.restore(), -1);
    Due.is("no course", x.course(0), -1);
    Due.is("no sight", x.sight(), 0);
    Due.is("none uphill", x.uphill(), 0);
    Due.is("none blank", x.blank(0), -1);
    Due.is("stays", x.stays(), 0);
    Due.is("a look at nothing", x.look(0), -1);
    Due.is("a look at nothing", x.look(1), -1);
  }

  private static void feeding() {
    Sentences.hold("Twenty bytes come on the TAPE, of each number the highest first: how many there are; NONE, doing nothing, if there would be more than 600.");
    BeliefRiver x = new BeliefRiver();
    // place6;place5;spring1; and eighteen bytes more
    Due.is("feed", x.feed(0x706C6163, 0x65363B70, 0x6C616365, 0x353B7370, 0x72696E67), 20);
    Due.is("feed", x.feed(0x313BFFFF, -1, -1, Integer.MIN_VALUE, Integer.MAX_VALUE), 40);
    Due.is("land", x.land(22), 2);
    Due.is("height", x.place(0, 0) * 100 + x.place(1, 0) * 10 + x.told(4), 651);
    Due.is("the tape is empty", x.count(1), 0);
    for (int k = 1; k <= 29; k++) Due.is("feed", x.feed(0x20202020, 0x20202020, 0x20202020, 0x20202020, 0x20202020), 20 * k);
    Due.is("the 600th byte", x.feed(0x20202020, 0x20202020, 0x20202020, 0x706C6163, 0x6520393B), 600);
    Due.is("a 601st", x.feed(0x70707070, 0x70707070, 0x70707070, 0x70707070, 0x70707070), -1);
    Due.is("a 601st", x.feed(0, 0, 0, 0, 0), -1);
    Due.is("there are 600", x.count(1), 600);
    Due.is("it is no refusal", x.status(0) + x.status(1), 0);
    Due.is("nothing was done", x.land(600), 1);
    Due.is("its height", x.place(0, 0), 9);
    Due.is("there is room once more", x.feed(0, 0, 0, 0, 0), 20);
    int[] high = {0x80808080, 0xFFFFFFFF, 0xC1C2C3C4};
    for (int v : high) {
      BeliefRiver y = new BeliefRiver();
      y.feed(v, 0x20202020, 0x20202020, 0x20202020, 0x20202020);
      Due.is("a byte above 127 is none of the small ones", y.land(1), -9);
    }
  }

  private static void landing() {
    Sentences.hold("The first n bytes of the TAPE (empty then) are the LAND (DAY 0; no LAW, BOOK, IMAGES, nothing to undo): how many PLACES; or the FAULT less 10 (all stays).");
    BeliefRiver x = new BeliefRiver();
    Due.feed(x, "place 6;place 7;place 8;");
    Due.is("the first 16", x.land(16), 2);
    Due.is("the rest is gone", x.count(1), 0);
    Due.is("none is a text, too", x.land(0), 0);
    Due.is("of it", x.told(0), 0);
    Due.feed(x, "place 6;");
    Due.is("none of 20", x.land(0), 0);
    Due.is("the tape is empty", x.count(1), 0);
    Due.land(x, Edge.SMALL);
    String fresh = Edge.picture(x);
    Due.law(x, "7");
    Due.book(x, "0 1;");
    Due.work(x, "day;walk 0 3;walk 0 2;dig 0 1;tell 0 0 2;forget 1 0;");
    x.image();
    x.image();
    Due.is("once more", Due.land(x, Edge.SMALL), 4);
    Edge.same("as at first", Edge.picture(x), fresh);
    Due.is("none to undo", x.undo(), -1);
    Due.is("none to restore", x.restore(), -1);
    for (int kind = 1; kind <= 3; kind++) {
      Edge.landFails(kind, kind == 1 ? "place ^x;" : kind == 2 ? "place ^61;" : TWELVE + "^place 1;");
    }
    wrongLengthOfLand();
  }

  private static void wrongLengthOfLand() {
    Sentences.hold("IllegalArgumentException: n is not 0 to the TAPE's bytes (it stays).");
    BeliefRiver x = Due.of(Edge.SMALL);
    Due.land(x, "place x");
    int fault = x.fault();
    String before = Edge.picture(x);
    Edge.illegal(x, "land 1 of an empty tape", () -> x.land(1));
    Due.feed(x, "place 7;");
    for (int n : new int[] {-1, 21, 600, 601, Integer.MIN_VALUE, Integer.MAX_VALUE}) {
      Edge.illegal(x, "land " + n, () -> x.land(n));
      Due.is("the tape stays", x.count(1), 20);
      Due.is("the fault stays", x.fault(), fault);
    }
    Edge.same("all stays", Edge.picture(x), before);
    Due.is("and can be read", x.land(8), 1);
    Due.feed(x, "place 7;            ");
    Due.is("all of the tape", x.land(20), 1);
    Due.feed(x, " ".repeat(600));
    Edge.illegal(x, "land 601", () -> x.land(601));
    Due.is("all of the tape", x.land(600), 0);
  }

  private static void lawing() {
    Sentences.hold("Likewise the LAW (n to 150): 1.");
    BeliefRiver x = new BeliefRiver();
    Due.feed(x, "7+8");
    Due.is("the first byte", x.law(1), 1);
    Due.is("the rest is gone", x.count(1), 0);
    Due.is("draw", x.would(0, 0, 0, 0, 0, 0, 0, 0, 0), 7);
    Edge.illegal(x, "law 1 of an empty tape", () -> x.law(1));
    Due.is("none of nothing is a fault", x.law(0), -9);
    Due.is("the law stays", x.would(0, 0, 0, 0, 0, 0, 0, 0, 0), 7);
    lengths(x, "law", 150, n -> x.law(n));
    Due.is("of 150 bytes that many digits", x.law(150), -8);
    Due.is("the tape is empty", x.count(1), 0);
    Due.is("the law is no work", x.undo(), -1);
    Due.is("another", Due.law(x, "8"), 1);
    Due.is("draw", x.would(0, 0, 0, 0, 0, 0, 0, 0, 0), 8);
  }

  /** Of a TAPE of 160 bytes, or of as many as there are beyond the bound. */
  private static void lengths(BeliefRiver x, String name, int most, java.util.function.IntUnaryOperator read) {
    Due.feed(x, "1".repeat(most + 10));
    int bytes = x.count(1);
    for (int n : new int[] {-1, most + 1, bytes, bytes + 1, 600, Integer.MIN_VALUE, Integer.MAX_VALUE}) {
      Edge.illegal(x, name + " " + n, () -> read.applyAsInt(n));
      Due.is("the tape stays", x.count(1), bytes);
    }
  }

  private static void working() {
    Sentences.hold("Likewise WORK (n to 150), which is done: how many STEPS were done (agains not counted, nor REFUSED ones); or the FAULT less 10 (none is);");
    BeliefRiver x = Due.of(Edge.SMALL);
    Due.feed(x, "day;day;");
    Due.is("the first 4", x.work(4), 1);
    Due.is("the rest is gone", x.count(1), 0);
    Edge.illegal(x, "work 1 of an empty tape", () -> x.work(1));
    Due.is("none is a work", x.work(0), 0);
    Due.is("of which there are two", x.count(2), 2);
    lengths(x, "work", 150, n -> x.work(n));
    Due.is("of 150", x.work(150), -9);
    Due.is("still two", x.count(2), 2);
    Edge.workDoes(x, 4, 3, "again 2[day;walk 0 0;again 1[day;];];walk 0 3;");
    Edge.workFails(1, "day;dig 0 1;tell 0 0 1;walk 0 1;^x");
    sixteen();
  }

  private static void sixteen() {
    Sentences.hold("-20 ahead of that (nothing is read, there is no FAULT, the TAPE is empty then): 16 WORKS are there that were not undone.");
    BeliefRiver x = Due.of(Edge.SMALL);
    for (int k = 1; k <= 15; k++) Due.is("work " + k, Due.work(x, "day;"), 1);
    Due.is("one with a fault is none", Due.work(x, "x"), -9);
    Due.is("the 16th", Due.work(x, "day;walk 0 0;"), 1);
    Due.is("sixteen", x.count(2), 16);
    Due.law(x, "x");
    Due.is("a fault", x.fault(), 0);
    String before = Edge.picture(x);
    for (String text : new String[] {"day;", "", "x", "tell 9 9 9;"}) {
      Due.is("a 17th '" + text + "'", Due.work(x, text), -20);
      Due.is("no fault", x.fault(), -1);
      Due.is("the tape is empty", x.count(1), 0);
    }
    Edge.same("nothing is done", Edge.picture(x), before);
    Due.is("it is no refusal", x.status(0) + x.status(1), 0);
    Edge.illegal(x, "a wrong n is refused ahead", () -> x.work(1));
    Due.feed(x, " ".repeat(160));
    Edge.illegal(x, "a wrong n is refused ahead", () -> x.work(151));
    Due.is("the tape stays", x.count(1), 160);
    Due.is("150 of them", x.work(150), -20);
    Due.is("the tape is empty", x.count(1), 0);
    Due.is("one undone", x.undo(), 15);
    Due.is("there is room for one", Due.work(x, "day;"), 1);
    Due.is("and no more", Due.work(x, "day;"), -20);
    Due.is("a land", Due.land(x, Edge.SMALL), 4);
    Due.is("makes room", Due.work(x, "day;"), 1);
  }

  private static void booking() {
    Sentences.hold("Likewise the BOOK (n to 60): how many lines.");
    BeliefRiver x = Due.of(Edge.SMALL);
    Due.feed(x, "0 1;1 0;");
    Due.is("the first 4", x.book(4), 1);
    Due.is("the rest is gone", x.count(1), 0);
    Edge.illegal(x, "book 1 of an empty tape", () -> x.book(1));
    lengths(x, "book", 60, n -> x.book(n));
    Due.is("of 60", x.book(60), -8);
    Due.is("the book stays", x.told(9), 1);
    Due.is("none is a book", x.book(0), 0);
    Due.is("without lines", x.told(9), 0);
    Due.is("the book is no work", x.undo(), -1);
    Due.is("another", Due.book(x, "0 2;"), 1);
    Due.is("takes its place", Due.book(x, "1 3;"), 1);
    Due.is("and no line of it stays", x.told(9), 1);
  }

  private static void faults() {
    Sentences.hold("The place of the FAULT of the latest text; NONE without.");
    BeliefRiver x = new BeliefRiver();
    Due.is("without a text", x.fault(), -1);
    Due.law(x, "1+x");
    Due.is("of a law", x.fault(), 2);
    Due.feed(x, "1");
    Due.is("feeding is no text", x.fault(), 2);
    Due.illegal("nor what is refused", () -> x.law(21));
    Due.is("it stays", x.fault(), 2);
    Due.is("a law", x.law(1), 1);
    Due.is("none", x.fault(), -1);
    Due.land(x, "place x");
    Due.is("of a land", x.fault(), 6);
    x.undo();
    x.image();
    x.restore();
    Due.is("no text either", x.fault(), 6);
    Due.work(x, "day;dey;");
    Due.is("of a work", x.fault(), 4);
    Due.book(x, "");
    Due.is("none", x.fault(), -1);
    Due.book(x, "0");
    Due.is("of a book", x.fault(), 0);
    Due.land(x, "");
    Due.is("none", x.fault(), -1);
  }
}
