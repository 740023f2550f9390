/** The edges of YEARS: the end of the terms, and promises 33 and 34. */
final class YearEdges {
  private static final int[] SEEDS = {0, 1, 2, 3, 4, 5, 6, 7, 8, 9, 77, -1, -2, 65536, 1 << 30, Integer.MAX_VALUE, Integer.MIN_VALUE, 123456789, -987654321};
  private static final String TWO = "place 0;place 0;ditch 0 1;person 1 0;person 2 0;";

  private YearEdges() { }

  static void run() {
    walkers();
    forgetters();
    manyDays();
    withoutPersons();
    drawing();
    years();
    spans();
    spanBounds();
  }

  /** What is DRAWN one behind the other, by these numbers. */
  private static int[] drawn(int seed, int... by) {
    int[] left = new int[by.length];
    long s = seed;
    for (int k = 0; k < by.length; k++) {
      s = s * 1103515245L + 12345L & 0xFFFFFFFFL;
      left[k] = (int) (s / 65536 % 32768 % by[k]);
    }
    return left;
  }

  private static void year(BeliefRiver x, int seed, int days, int q, int... due) {
    for (int w = 0; w < 4; w++) Due.is("year " + seed + " " + days + " " + q + " " + w, x.year(seed, days, q, w), due[w]);
  }

  private static void walkers() {
    Sentences.hold("A YEAR by a SEED: for so many DAYS: DRAWN by how many PERSONS there are, by how many PLACES: walk (if it can be done); "
        + "DRAWN by 16 below Q: this PERSON forgets what it believes of where it is (if it can); then day.");
    // On the first day it goes on, and who is in 0 then believes so; later only if belief is above 1: if person 1 does.
    BeliefRiver x = Due.of(TWO, "1-least[day,1]+(belief-1)*least[day,1]");
    for (int seed : SEEDS) {
      int[] d = drawn(seed, 2, 2);
      boolean walks = d[1] == 1;
      boolean on = !walks || d[0] == 0;
      year(x, seed, 1, 0, on ? 1 : 0, walks ? 1 : 2, walks ? 1 : 0, on ? 3 : 1);
    }
  }

  private static void forgetters() {
    BeliefRiver x = Due.of(TWO + "claim 0 0 1;claim 1 0 1;", "belief-1");
    BeliefRiver y = Due.of(TWO + "claim 0 0 1;claim 1 0 1;claim 0 1 0;claim 1 1 0;", "belief-1");
    for (int seed : SEEDS) {
      int[] d = drawn(seed, 2, 2, 16);
      boolean walks = d[1] == 1;
      int walked = walks ? 1 : 0;
      year(x, seed, 1, d[2], 1, 2, walked, 3);
      year(y, seed, 1, d[2], 1, 4, walked, 3);
      // By one more it forgets: in 0 what it sees again that day, unless it was person 1, without whom it does not go on;
      // in 1 what it claimed of 1, if anything.
      boolean dry = !walks && d[0] == 1;
      year(x, seed, 1, d[2] + 1, dry ? 0 : 1, dry ? 1 : 2, walked, dry ? 1 : 3);
      year(y, seed, 1, d[2] + 1, dry ? 0 : 1, walks || dry ? 3 : 4, walked, dry ? 1 : 3);
    }
  }

  private static void manyDays() {
    BeliefRiver x = Due.of(Edge.FULL);
    for (int seed : SEEDS) {
      int[] at = {0, 1, 2, 3, 4, 11};
      int walks = 0;
      int[] by = new int[3 * 96];
      for (int k = 0; k < by.length; k++) by[k] = k % 3 == 0 ? 6 : k % 3 == 1 ? 12 : 16;
      int[] d = drawn(seed, by);
      for (int day = 0; day < 96; day++) {
        if (linked(at[d[3 * day]], d[3 * day + 1])) {
          at[d[3 * day]] = d[3 * day + 1];
          walks++;
        }
        if (day == 0 || day == 40 || day == 95) Due.is("walks of " + seed + " in " + (day + 1), x.year(seed, day + 1, day % 17, 2), walks);
      }
    }
  }

  /** Whether a DITCH of the FULL land is between the two. */
  private static boolean linked(int a, int b) {
    return a != b && (a + 1 == b || b + 1 == a || Math.min(a, b) == 0 && Math.max(a, b) < 5 || Math.max(a, b) == 11 && Math.min(a, b) > 7);
  }

  private static void withoutPersons() {
    Sentences.hold("Without PERSONS none is DRAWN, DAYS go by.");
    BeliefRiver x = Due.of("place 5;place 1;ditch 0 1;", "1-day/9");
    year(x, 7, 8, 16, 1, 0, 0, 3);
    year(x, 7, 9, 16, 0, 0, 0, 1);
    BeliefRiver y = Due.of("place 5;place 1;ditch 0 1;", "3-ran");
    year(y, 7, 2, 16, 1, 0, 0, 3);
    year(y, 7, 3, 16, 0, 0, 0, 1);
    year(new BeliefRiver(), 7, 96, 16, -1, 0, 0, 0);
  }

  private static void drawing() {
    Sentences.hold("What is DRAWN: the SEED (32 bits) becomes itself times 1,103,515,245, and 12,345 (it wraps); its bits 16 to 30, what is left of them.");
    // The first three of seed 1 by hand: 1103527590, 2524885223, 662824084, whose bits 16 to 30 are 16838, 5758, 10113.
    int[] d = drawn(1, 32768, 32768, 32768);
    Due.is("the first", d[0], 16838);
    Due.is("the second", d[1], 5758);
    Due.is("the third", d[2], 10113);
    // Of one person: 0; of two places 5758 is even: it stays in 0; of 16 10113 leaves 1.
    BeliefRiver x = Due.of("place 0;place 0;ditch 0 1;person 1 0;claim 0 0 1;", "belief");
    year(x, 1, 1, 1, 1, 1, 0, 3);
    year(x, 1, 1, 2, 0, 0, 0, 1);
    // Seeds that differ in bit 31 alone draw the same: it is never among bits 16 to 30, nor does it come to them.
    BeliefRiver y = Due.of(Edge.FULL);
    for (int seed : new int[] {0, 5, 77}) {
      for (int w = 0; w < 4; w++) Due.is("seed " + seed, y.year(seed, 20, 8, w), y.year(seed ^ Integer.MIN_VALUE, 20, 8, w));
    }
  }

  private static void years() {
    Sentences.hold("A YEAR of so many DAYS (1 to 96), Q (0 to 16): 0 where it ENDS then (NONE), 1 what is believed in all then, 2 walks that were done, 3 PLACES of the COURSE then (bits).");
    BeliefRiver x = Due.of(Edge.SMALL);
    Edge.bounds(x, "year days", 1, 96, n -> x.year(1, n, 9, 0));
    Edge.bounds(x, "year q", 0, 16, q -> x.year(1, 9, q, 0));
    for (int seed : new int[] {Integer.MIN_VALUE, -1, 0, Integer.MAX_VALUE}) Due.is("any seed", Due.thrown(() -> x.year(seed, 1, 0, 0)), 0);
    BeliefRiver y = new BeliefRiver();
    Edge.bounds(y, "year days of nothing", 1, 96, n -> y.year(1, n, 9, 0));
    // By Q 0 none forgets, by Q 16 each day's person does: alone in 0, where nothing else draws, it is the first day.
    BeliefRiver z = Due.of("place 0;person 1 0;place 0;ditch 0 1;claim 0 0 1;claim 0 1 0;", "belief");
    for (int seed : SEEDS) {
      Due.is("Q 0 of " + seed, z.year(seed, 96, 0, 1), 2);
      Due.is("Q 16 of " + seed, z.year(seed, 1, 16, 1), 1);
    }
    Due.is("the last day is day 96", Due.of("place 0;place 0;ditch 0 1;", "day-95").year(1, 96, 0, 0), 1);
    Due.is("but not of 95", Due.of("place 0;place 0;ditch 0 1;", "day-95").year(1, 95, 0, 0), 0);
  }

  private static void spans() {
    Sentences.hold("Of so many SEEDS (1 to 20; seed, seed and 1, ..): 0 the fewest PLACES of the COURSE then, 1 the most, 2 by how many the COURSE comes to a PLACE then.");
    String land = Edge.FULL + "claim 0 0 1;claim 1 1 0;claim 2 2 3;claim 3 3 2;claim 4 4 3;claim 5 11 10;";
    for (int many : new int[] {1, 2, 19, 20}) {
      for (int seed : new int[] {0, 500, -10, Integer.MAX_VALUE, Integer.MAX_VALUE - 5, Integer.MIN_VALUE}) spanOf(Due.of(land), seed, many);
    }
    Due.is("twelve", Due.of(Edge.FULL, Edge.ALONG).span(1, 20, 9, 9, 0, 0), 12);
    Due.is("twelve at most", Due.of(Edge.FULL, Edge.ALONG).span(1, 20, 9, 9, 1, 0), 12);
    Due.is("by all to the last", Due.of(Edge.FULL, Edge.ALONG).span(1, 20, 9, 9, 2, 11), 20);
    Due.is("by none", Due.of(Edge.FULL, "0").span(1, 20, 9, 9, 2, 11), 0);
    Due.is("one", Due.of(Edge.FULL, "0").span(1, 20, 9, 9, 0, 11), 1);
    Due.is("one at most", Due.of(Edge.FULL, "0").span(1, 20, 9, 9, 1, 11), 1);
    Due.is("by all to the first", Due.of(Edge.FULL, "0").span(1, 20, 9, 9, 2, 0), 20);
  }

  private static void spanOf(BeliefRiver x, int seed, int many) {
    int fewest = 99;
    int most = 0;
    int[] come = new int[12];
    for (int k = 0; k < many; k++) {
      int bits = x.year(seed + k, 5, 12, 3);
      fewest = Math.min(fewest, Integer.bitCount(bits));
      most = Math.max(most, Integer.bitCount(bits));
      for (int a = 0; a < 12; a++) come[a] += bits >> a & 1;
    }
    String what = "span " + seed + " " + many + " ";
    Due.is(what + 0, x.span(seed, many, 5, 12, 0, 0), fewest);
    Due.is(what + 1, x.span(seed, many, 5, 12, 1, 11), most);
    for (int a = 0; a < 12; a++) Due.is(what + 2 + " " + a, x.span(seed, many, 5, 12, 2, a), come[a]);
  }

  private static void spanBounds() {
    Sentences.hold("(IllegalArgumentException: no such PLACE, also for 0, 1.)");
    BeliefRiver x = Due.of(Edge.SMALL);
    Edge.bounds(x, "span many", 1, 20, n -> x.span(1, n, 9, 9, 0, 0));
    Edge.bounds(x, "span days", 1, 96, n -> x.span(1, 2, n, 9, 0, 0));
    Edge.bounds(x, "span q", 0, 16, q -> x.span(1, 2, 9, q, 0, 0));
    for (int what = 0; what < 3; what++) {
      int w = what;
      Edge.bounds(x, "span place for " + w, 0, 3, a -> x.span(1, 2, 9, 9, w, a));
    }
    BeliefRiver y = Due.of(Edge.FULL);
    Edge.bounds(y, "span place", 0, 11, a -> y.span(1, 2, 9, 9, 2, a));
    BeliefRiver z = new BeliefRiver();
    for (int what = 0; what < 3; what++) {
      int w = what;
      Edge.illegal(z, "span without places", () -> z.span(1, 1, 1, 0, w, 0));
    }
  }
}
