import java.util.Random;

/** Random runs of calls, the same ones each time, answered by BeliefRiver and by PlainRiver alike. */
public final class RandomRunsTest {
  private static final int RUNS = 400;
  private static final int CALLS = 300;
  private static int wrong = 0;
  private static int asked = 0;

  private final Random random;
  private final BeliefRiver river = new BeliefRiver();
  private final PlainRiver plain = new PlainRiver();
  private final StringBuilder story = new StringBuilder();
  private int places = 0;
  private int persons = 0;

  private RandomRunsTest(long seed) { random = new Random(seed); }

  interface Call { long answer(); }

  private static String outcome(Call call) {
    try {
      return Long.toString(call.answer());
    } catch (IllegalArgumentException | java.util.NoSuchElementException e) {
      return e.getClass().getSimpleName();
    }
  }

  private void both(String name, Call one, Call two) {
    asked++;
    String got = outcome(one);
    String due = outcome(two);
    story.append(name).append(" -> ").append(due).append('\n');
    if (got.equals(due)) return;
    wrong++;
    if (wrong <= 3) System.out.println(story + "LAST ROW WRONG: answered " + got);
  }

  private int below(int n) { return random.nextInt(n); }
  private int from(int least, int most) { return least + below(most - least + 1); }
  private boolean chance(int percent) { return below(100) < percent; }

  /** A number that mostly fits the bounds, and now and then stands at or beyond their edges. */
  private int near(int least, int most) {
    if (chance(3)) return least - 1;
    if (chance(3)) return most + 1;
    if (chance(1)) return random.nextInt();
    if (chance(5)) return least;
    if (chance(5)) return most;
    return most < least ? least : from(least, most);
  }

  private int aPlace() { return near(0, places - 1); }
  private int aPerson() { return near(0, persons - 1); }

  private void feedText(String text) {
    for (int k = 0; k < text.length(); k += 20) {
      int[] v = new int[5];
      for (int j = 0; j < 20; j++) v[j / 4] = v[j / 4] << 8 | (k + j < text.length() ? text.charAt(k + j) : 0);
      both("feed", () -> river.feed(v[0], v[1], v[2], v[3], v[4]), () -> plain.feed(v));
    }
  }

  private String spoiled(String text) {
    StringBuilder s = new StringBuilder(text);
    int times = chance(15) ? from(1, 2) : 0;
    for (int k = 0; k < times && s.length() > 0; k++) {
      int at = below(s.length());
      switch (below(5)) {
        case 0: s.deleteCharAt(at); break;
        case 1: s.insert(at, " ;[](),+-*/%09az".charAt(below(15))); break;
        case 2: s.setCharAt(at, (char) below(256)); break;
        case 3: s.setCharAt(at, (char) ('0' + below(10))); break;
        default: s.setLength(at); break;
      }
    }
    return s.toString();
  }

  private String gap() { return chance(80) ? " " : chance(50) ? "  " : "   "; }
  private String maybeGap() { return chance(85) ? "" : gap(); }

  private String landText() {
    StringBuilder s = new StringBuilder();
    int tall = from(0, 12);
    int n = chance(5) ? from(0, 13) : chance(30) ? from(8, 12) : from(2, 7);
    for (int k = 0; k < n; k++) s.append("place").append(gap()).append(chance(80) ? from(0, tall) : from(0, 60)).append(maybeGap()).append(';');
    boolean[][] linked = new boolean[20][20];
    int ditches = n < 2 ? 0 : Math.min(16, from(n - 2, n + 4));
    if (n > 1 && chance(3)) ditches = 17;
    for (int k = 0; k < ditches; k++) {
      int a = chance(60) ? k % n : below(n);
      int b = below(n);
      if ((a == b || linked[a][b]) && !chance(1)) continue;
      linked[a][b] = linked[b][a] = true;
      s.append("ditch ").append(a).append(gap()).append(b).append(';');
    }
    int people = n == 0 || chance(5) ? 0 : chance(3) ? 7 : from(1, 6);
    for (int k = 0; k < people; k++) s.append("person").append(gap()).append(from(1, 9)).append(' ').append(below(n)).append(';');
    for (int k = from(0, 60); k > 0 && people > 0; k--) {
      int a = below(n);
      int b = below(n);
      if (linked[a][b] || chance(1) && chance(5)) s.append("claim ").append(below(people)).append(' ').append(a).append(' ').append(b).append(';');
    }
    if (n > 0 && chance(70)) s.append("spring ").append(below(n)).append(';');
    while (chance(2) && s.length() < 560 && n > 0) for (int k = 0; k < 40; k++) s.append("spring0;");
    places = Math.min(n, 12);
    persons = Math.min(people, 6);
    return s.length() > 600 ? s.substring(0, 600) : s.toString();
  }

  private String sum(int deep) {
    StringBuilder s = new StringBuilder(product(deep));
    for (int k = below(3); k > 0; k--) s.append(maybeGap()).append(chance(60) ? '+' : '-').append(maybeGap()).append(product(deep));
    return s.toString();
  }

  private String product(int deep) {
    StringBuilder s = new StringBuilder(unit(deep));
    while (chance(25)) s.append(maybeGap()).append("*/%".charAt(below(3))).append(maybeGap()).append(unit(deep));
    return s.toString();
  }

  private String unit(int deep) {
    String[] words = {"fall", "belief", "doubt", "near", "dug", "ran", "day", "from", "to"};
    if (deep > 0 && chance(25)) {
      if (chance(50)) return "(" + sum(deep - 1) + maybeGap() + ")";
      return (chance(50) ? "least" : "most") + maybeGap() + "[" + sum(deep - 1) + "," + sum(deep - 1) + "]";
    }
    return chance(70) ? words[below(words.length)] : String.valueOf(chance(70) ? below(10) : below(1000));
  }

  private String lawText() {
    if (chance(8)) {
      int deep = from(5, 8);
      return "(".repeat(deep) + "fall" + ")".repeat(deep);
    }
    if (chance(20)) return "fall+belief-doubt+dug*" + from(1, 5) + (chance(50) ? "-ran" : "-day%" + from(2, 30));
    String s = chance(60) ? "fall+belief*3-doubt+" + sum(2) : sum(4);
    return s.length() > 150 ? s.substring(0, 150) : s;
  }

  private String stepText(int deep) {
    int p = persons == 0 ? 0 : below(persons);
    int a = places == 0 ? 0 : below(places);
    int b = places == 0 ? 0 : below(places);
    if (!plain.ground.ditches.isEmpty() && !chance(3)) {
      int[] ends = plain.ground.ditches.get(below(plain.ground.ditches.size()));
      boolean turned = chance(50);
      a = turned ? ends[1] : ends[0];
      b = turned ? ends[0] : ends[1];
    }
    if (deep > 0 && chance(20)) {
      StringBuilder s = new StringBuilder("again ").append(chance(80) ? below(12) : from(12, 61)).append(" [");
      for (int k = below(4); k > 0; k--) s.append(stepText(deep - 1));
      return s.append("];").toString();
    }
    switch (chance(30) ? 4 : below(4)) {
      case 0: return "tell " + p + " " + a + " " + b + ";";
      case 1: return "forget " + p + " " + a + ";";
      case 2: return "walk " + p + gap() + a + maybeGap() + ";";
      case 3: return "dig " + a + " " + b + ";";
      default: return "day;";
    }
  }

  private String workText() {
    StringBuilder s = new StringBuilder();
    if (chance(5)) s.append("again 60[again 60[day;];];");
    if (chance(2)) s.append("again 1[".repeat(from(5, 8))).append("day;").append("];".repeat(from(5, 8)));
    for (int k = below(8); k > 0; k--) {
      String step = stepText(chance(10) ? 7 : 2);
      if (s.length() + step.length() <= 150) s.append(step);
    }
    return s.toString();
  }

  private String bookText() {
    StringBuilder s = new StringBuilder();
    for (int a = 0; a < places && s.length() < 50; a++) {
      if (!chance(35)) continue;
      int next = plain.place(a, 3);
      int b = chance(60) ? next : below(places);
      if (b >= 0 && (plain.ground.ditch(a, b) >= 0 || chance(10))) s.append(a).append(gap()).append(b).append(maybeGap()).append(';');
      if (chance(2)) s.append(a).append(' ').append(Math.max(0, b)).append(';');
    }
    return s.toString();
  }

  private void tellText(int kind) {
    String text = spoiled(kind == 0 ? landText() : kind == 1 ? lawText() : kind == 2 ? workText() : bookText());
    feedText(text);
    int n = chance(3) ? near(0, text.length() + 20) : text.length();
    String[] names = {"land", "law", "work", "book"};
    String name = names[kind] + "(" + n + ") of '" + text + "'";
    switch (kind) {
      case 0: both(name, () -> river.land(n), () -> plain.land(n)); break;
      case 1: both(name, () -> river.law(n), () -> plain.law(n)); break;
      case 2: both(name, () -> river.work(n), () -> plain.work(n)); break;
      default: both(name, () -> river.book(n), () -> plain.book(n)); break;
    }
    both("fault", river::fault, plain::fault);
    places = plain.ground.heights.size();
    persons = plain.world.persons.size();
  }

  private void askOfNumbers() {
    int x = aPlace();
    int y = aPlace();
    int p = aPerson();
    int o = aPerson();
    switch (below(13)) {
      case 0: { int w = near(0, 10); both("told " + w, () -> river.told(w), () -> plain.told(w)); break; }
      case 1: { int w = near(0, 4); both("place " + x + " " + w, () -> river.place(x, w), () -> plain.place(x, w)); break; }
      case 2: { int w = near(0, 3); int d = near(0, 15); both("ditch " + d + " " + w, () -> river.ditch(d, w), () -> plain.ditch(d, w)); break; }
      case 3: { int w = near(0, 3); both("person " + p + " " + w, () -> river.person(p, w), () -> plain.person(p, w)); break; }
      case 4: both("belief " + p + " " + x, () -> river.belief(p, x), () -> plain.belief(p, x)); break;
      case 5: both("pull " + x + " " + y, () -> river.pull(x, y), () -> plain.pull(x, y)); break;
      case 6: {
        int[] v = {near(-60, 60), near(0, 54), near(0, 54), near(0, 6), near(0, 9), near(0, 999), near(0, 500), near(0, 11), near(0, 11)};
        both("would " + java.util.Arrays.toString(v), () -> river.would(v[0], v[1], v[2], v[3], v[4], v[5], v[6], v[7], v[8]),
            () -> plain.would(v[0], v[1], v[2], v[3], v[4], v[5], v[6], v[7], v[8]));
        break;
      }
      case 7: { int k = near(0, 12); both("course " + k, () -> river.course(k), () -> plain.course(k)); break; }
      case 8: both("way " + x + " " + y, () -> river.way(x, y), () -> plain.way(x, y)); break;
      case 9: { int w = near(0, 1); both("meet " + p + " " + o + " " + w, () -> river.meet(p, o, w), () -> plain.meet(p, o, w)); break; }
      case 10: { int w = near(0, 1); both("right " + x + " " + w, () -> river.right(x, w), () -> plain.right(x, w)); break; }
      case 11: { int w = near(0, 1); both("blank " + w, () -> river.blank(w), () -> plain.blank(w)); break; }
      default: both("uphill", river::uphill, plain::uphill); break;
    }
  }

  private void askMore() {
    int x = aPlace();
    int y = aPlace();
    int p = aPerson();
    int w = near(0, 2);
    int w1 = near(0, 1);
    switch (below(13)) {
      case 0: { int n = near(0, 99); both("ahead " + n + " " + w1, () -> river.ahead(n, w1), () -> plain.ahead(n, w1)); break; }
      case 1: if (chance(20)) both("stays", river::stays, plain::stays); break;
      case 2: both("tellings " + p + " " + x + " " + w1, () -> river.tellings(p, x, w1), () -> plain.tellings(p, x, w1)); break;
      case 3: both("silence " + x, () -> river.silence(x), () -> plain.silence(x)); break;
      case 4: both("who " + w, () -> river.who(w), () -> plain.who(w)); break;
      case 5: if (chance(30)) both("look " + w1, () -> river.look(w1), () -> plain.look(w1)); break;
      case 6: both("digs " + x + " " + y, () -> river.digs(x, y), () -> plain.digs(x, y)); break;
      case 7: both("sight", river::sight, plain::sight); break;
      case 8: { int n = near(0, 12); int q = near(0, 16); both("seen " + n + " " + q + " " + w1, () -> river.seen(n, q, w1), () -> plain.seen(n, q, w1)); break; }
      case 9: { int d = near(0, 30); both("leaders " + d + " " + w, () -> river.leaders(d, w), () -> plain.leaders(d, w)); break; }
      case 10: {
        int set = near(0, (1 << persons) - 1);
        int n = chance(70) ? near(0, 30) : near(0, 99);
        both("share " + p + " " + set + " " + n, () -> river.share(p, set, n), () -> plain.share(p, set, n));
        break;
      }
      default: askOfYears(); break;
    }
  }

  private void askOfYears() {
    int seed = random.nextInt();
    int days = chance(70) ? near(1, 20) : near(1, 96);
    int q = near(0, 16);
    if (chance(75)) {
      int w = near(0, 3);
      both("year " + seed + " " + days + " " + q + " " + w, () -> river.year(seed, days, q, w), () -> plain.year(seed, days, q, w));
    } else {
      int many = chance(85) ? near(1, 5) : near(1, 20);
      int w = near(0, 2);
      int x = aPlace();
      both("span " + seed + " " + many + " " + days + " " + q + " " + w + " " + x,
          () -> river.span(seed, many, days, q, w, x), () -> plain.span(seed, many, days, q, w, x));
    }
  }

  private void keep() {
    switch (below(6)) {
      case 0: both("image", river::image, plain::image); break;
      case 1: both("restore", river::restore, plain::restore); break;
      case 2: { int w = near(0, 1); both("status " + w, () -> river.status(w), () -> plain.status(w)); break; }
      case 3: case 4: { int w = near(0, 2); both("count " + w, () -> river.count(w), () -> plain.count(w)); break; }
      default: both("undo", river::undo, plain::undo); break;
    }
  }

  private void run(boolean manyWorks) {
    if (chance(95)) tellText(0);
    for (int k = 0; k < CALLS; k++) {
      int kind = below(100);
      if (manyWorks && chance(30)) tellText(2);
      else if (manyWorks && chance(30)) keep();
      else if (kind < 1) tellText(0);
      else if (kind < 5) tellText(1);
      else if (kind < 14) tellText(2);
      else if (kind < 19) tellText(3);
      else if (kind < 20) feedText("day;");
      else if (kind < 62) askOfNumbers();
      else if (kind < 92) askMore();
      else keep();
    }
  }

  public static void main(String[] args) {
    int runs = args.length > 0 ? Integer.parseInt(args[0]) : RUNS;
    long first = args.length > 1 ? Long.parseLong(args[1]) : 1;
    for (int k = 0; k < runs; k++) new RandomRunsTest(first + k).run(k % 7 == 0);
    System.out.println(runs + " random runs, " + asked + " calls, " + wrong + " wrong");
    if (wrong != 0) System.exit(1);
  }
}
