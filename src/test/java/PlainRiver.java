import java.math.BigInteger;
import java.util.ArrayList;
import java.util.Arrays;
import java.util.List;
import java.util.Map;
import java.util.NoSuchElementException;
import java.util.TreeMap;
import java.util.TreeSet;

/**
 * The document once more, in the plainest form: whole copies instead of rows used again, every tell
 * tried, tokens and trees instead of codes. RandomRunsTest holds BeliefRiver against it.
 */
final class PlainRiver {
  static final class Fault extends RuntimeException {
    private static final long serialVersionUID = 1L;
    final int kind;
    final int at;
    Fault(int kind, int at) { this.kind = kind; this.at = at; }
  }

  record Token(char kind, String text, int at) {
    int value() { return text.length() > 9 && !text.replaceFirst("^0+", "").isEmpty() && text.replaceFirst("^0+", "").length() > 9 ? 999999999 : Integer.parseInt(shortened()); }
    private String shortened() { String s = text.replaceFirst("^0+", ""); return s.isEmpty() ? "0" : s; }
  }

  /** Words are 'w', numbers 'n', the end 'e', every other byte stands for itself. */
  static final class Tokens {
    final List<Token> all = new ArrayList<>();
    int next = 0;
    Tokens(String text) {
      int i = 0;
      while (i < text.length()) {
        char c = text.charAt(i);
        int j = i + 1;
        if (c == ' ') { i = j; continue; }
        if (c >= 'a' && c <= 'z') {
          while (j < text.length() && text.charAt(j) >= 'a' && text.charAt(j) <= 'z') j++;
          all.add(new Token('w', text.substring(i, j), i));
        } else if (c >= '0' && c <= '9') {
          while (j < text.length() && text.charAt(j) >= '0' && text.charAt(j) <= '9') j++;
          all.add(new Token('n', text.substring(i, j), i));
        } else {
          all.add(new Token('s', text.substring(i, j), i));
        }
        i = j;
      }
      all.add(new Token('e', "", text.length()));
    }
    Token peek() { return all.get(next); }
    Token take() { Token t = all.get(next); if (t.kind() != 'e') next++; return t; }
    boolean ended() { return peek().kind() == 'e'; }
    boolean isSign(String s) { return peek().kind() == 's' && peek().text().equals(s); }
    void sign(String s) { if (!isSign(s)) throw new Fault(1, peek().at()); take(); }
    Token word(String... known) {
      Token t = peek();
      if (t.kind() != 'w' || !Arrays.asList(known).contains(t.text())) throw new Fault(1, t.at());
      return take();
    }
    int number(int least, int most) {
      Token t = peek();
      if (t.kind() != 'n') throw new Fault(1, t.at());
      if (t.value() < least || t.value() > most) throw new Fault(2, t.at());
      take();
      return t.value();
    }
    int lastAt() { return all.get(next - 1).at(); }
  }

  interface Formula { int value(Map<String, Integer> given); }

  static final class Person {
    int trust;
    int at;
    TreeMap<Integer, Integer> believes = new TreeMap<>();
    Person copy() {
      Person p = new Person();
      p.trust = trust;
      p.at = at;
      p.believes = new TreeMap<>(believes);
      return p;
    }
  }

  static final class World {
    int day;
    List<Person> persons = new ArrayList<>();
    List<Integer> dug = new ArrayList<>();
    List<Integer> ran = new ArrayList<>();
    World copy() {
      World w = new World();
      w.day = day;
      for (Person p : persons) w.persons.add(p.copy());
      w.dug = new ArrayList<>(dug);
      w.ran = new ArrayList<>(ran);
      return w;
    }
  }

  static final class Ground {
    List<Integer> heights = new ArrayList<>();
    List<int[]> ditches = new ArrayList<>();
    int spring = 0;
    int ditch(int a, int b) {
      for (int k = 0; k < ditches.size(); k++) {
        int[] d = ditches.get(k);
        if (d[0] == a && d[1] == b || d[0] == b && d[1] == a) return k;
      }
      return -1;
    }
  }

  record Kept(World world, List<World> undone) { }

  StringBuilder tape = new StringBuilder();
  Ground ground = new Ground();
  World world = new World();
  Formula formula = usual();
  TreeMap<Integer, Integer> lines = new TreeMap<>();
  List<World> undone = new ArrayList<>();
  List<Kept> kept = new ArrayList<>();
  int faultAt = -1;
  int refused;
  int missing;
  int illegal;

  static Formula usual() { return g -> g.get("fall") + g.get("belief") * 3 - g.get("doubt"); }

  // ---- texts

  int feed(int... five) {
    if (tape.length() + 20 > 600) return -1;
    for (int v : five) for (int s = 24; s >= 0; s -= 8) tape.append((char) (v >> s & 255));
    return tape.length();
  }

  private String text(int n, int most) {
    if (n < 0 || n > tape.length() || n > most) throw illegal();
    String s = tape.substring(0, n);
    tape.setLength(0);
    faultAt = -1;
    return s;
  }

  private int faulty(Fault f) { faultAt = f.at; return f.kind - 10; }

  int land(int n) {
    String s = text(n, 600);
    try {
      Ground g = new Ground();
      World w = new World();
      readLand(new Tokens(s), g, w);
      ground = g;
      world = w;
    } catch (Fault f) { return faulty(f); }
    formula = usual();
    lines = new TreeMap<>();
    undone = new ArrayList<>();
    kept = new ArrayList<>();
    refused = 0;
    return ground.heights.size();
  }

  private static void readLand(Tokens t, Ground g, World w) {
    int clauses = 0;
    while (!t.ended()) {
      Token word = t.word("place", "ditch", "person", "claim", "spring");
      boolean full = switch (word.text()) {
        case "place" -> g.heights.size() == 12;
        case "ditch" -> g.ditches.size() == 16;
        case "person" -> w.persons.size() == 6;
        default -> false;
      };
      if (full || clauses == 60) throw new Fault(3, word.at());
      clauses++;
      int places = g.heights.size() - 1;
      switch (word.text()) {
        case "place" -> g.heights.add(t.number(0, 60));
        case "ditch" -> {
          int a = t.number(0, places);
          int b = t.number(0, places);
          if (a == b || g.ditch(a, b) >= 0) throw new Fault(2, t.lastAt());
          g.ditches.add(new int[] {a, b});
          w.dug.add(0);
          w.ran.add(0);
        }
        case "person" -> {
          Person p = new Person();
          p.trust = t.number(1, 9);
          p.at = t.number(0, places);
          w.persons.add(p);
        }
        case "claim" -> {
          int p = t.number(0, w.persons.size() - 1);
          int a = t.number(0, places);
          w.persons.get(p).believes.put(a, linked(t, g, a));
        }
        default -> g.spring = t.number(0, places);
      }
      t.sign(";");
    }
  }

  private static int linked(Tokens t, Ground g, int a) {
    int b = t.number(0, g.heights.size() - 1);
    if (g.ditch(a, b) < 0) throw new Fault(2, t.lastAt());
    return b;
  }

  int law(int n) {
    String s = text(n, 150);
    try {
      Tokens t = new Tokens(s);
      Formula f = sum(t, 0);
      if (!t.ended()) throw new Fault(1, t.peek().at());
      formula = f;
    } catch (Fault f) { return faulty(f); }
    return 1;
  }

  private static Formula sum(Tokens t, int open) {
    Formula left = product(t, open);
    while (t.isSign("+") || t.isSign("-")) {
      boolean plus = t.take().text().equals("+");
      Formula l = left;
      Formula r = product(t, open);
      left = plus ? g -> l.value(g) + r.value(g) : g -> l.value(g) - r.value(g);
    }
    return left;
  }

  private static Formula product(Tokens t, int open) {
    Formula left = unit(t, open);
    while (t.isSign("*") || t.isSign("/") || t.isSign("%")) {
      char sign = t.take().text().charAt(0);
      Formula l = left;
      Formula r = unit(t, open);
      left = switch (sign) {
        case '*' -> g -> l.value(g) * r.value(g);
        case '/' -> g -> r.value(g) == 0 ? 0 : l.value(g) / r.value(g);
        default -> g -> r.value(g) == 0 ? 0 : l.value(g) % r.value(g);
      };
    }
    return left;
  }

  private static Formula unit(Tokens t, int open) {
    if (t.peek().kind() == 'n') {
      int v = t.number(0, 999);
      return g -> v;
    }
    if (t.isSign("(")) {
      if (open == 6) throw new Fault(3, t.peek().at());
      t.take();
      Formula f = sum(t, open + 1);
      t.sign(")");
      return f;
    }
    Token w = t.word("fall", "belief", "doubt", "near", "dug", "ran", "day", "from", "to", "least", "most");
    if (!w.text().equals("least") && !w.text().equals("most")) return g -> g.get(w.text());
    if (open == 6) throw new Fault(3, w.at());
    t.sign("[");
    Formula a = sum(t, open + 1);
    t.sign(",");
    Formula b = sum(t, open + 1);
    t.sign("]");
    return w.text().equals("least") ? g -> Math.min(a.value(g), b.value(g)) : g -> Math.max(a.value(g), b.value(g));
  }

  record Step(String word, int[] numbers, List<Step> inner) { }

  int work(int n) {
    String s = text(n, 150);
    if (undone.size() == 16) return -20;
    List<Step> steps;
    try {
      Tokens t = new Tokens(s);
      steps = steps(t, 0);
      if (!t.ended()) throw new Fault(1, t.peek().at());
    } catch (Fault f) { return faulty(f); }
    undone.add(world.copy());
    int[] counts = new int[3];
    perform(steps, counts);
    refused = counts[2];
    return counts[1];
  }

  private List<Step> steps(Tokens t, int open) {
    List<Step> steps = new ArrayList<>();
    while (!(open > 0 ? t.isSign("]") : t.ended())) {
      Token w = t.word("tell", "forget", "walk", "dig", "day", "again");
      int persons = world.persons.size() - 1;
      int places = ground.heights.size() - 1;
      List<Step> inner = List.of();
      int[] numbers = {};
      switch (w.text()) {
        case "tell" -> {
          int p = t.number(0, persons);
          int a = t.number(0, places);
          numbers = new int[] {p, a, linked(t, ground, a)};
        }
        case "forget", "walk" -> {
          int p = t.number(0, persons);
          numbers = new int[] {p, t.number(0, places)};
        }
        case "dig" -> {
          int a = t.number(0, places);
          numbers = new int[] {a, linked(t, ground, a)};
        }
        case "again" -> {
          if (open == 6) throw new Fault(3, w.at());
          numbers = new int[] {t.number(0, 60)};
          t.sign("[");
          inner = steps(t, open + 1);
          t.sign("]");
        }
        default -> { }
      }
      t.sign(";");
      steps.add(new Step(w.text(), numbers, inner));
    }
    return steps;
  }

  /** counts: begun, done, refused. */
  private void perform(List<Step> steps, int[] counts) {
    for (Step s : steps) {
      if (counts[0] == 200) return;
      counts[0]++;
      if (s.word().equals("again")) {
        for (int k = 0; k < s.numbers()[0]; k++) perform(s.inner(), counts);
      } else {
        counts[performed(s) ? 1 : 2]++;
      }
    }
  }

  private boolean performed(Step s) {
    int[] n = s.numbers();
    switch (s.word()) {
      case "tell": return told(world, n[0], n[1], n[2]);
      case "forget": return world.persons.get(n[0]).believes.remove(n[1]) != null;
      case "walk": return walked(world, n[0], n[1]);
      case "dig": {
        int d = ground.ditch(n[0], n[1]);
        if (world.dug.get(d) == 9) return false;
        world.dug.set(d, world.dug.get(d) + 1);
        return true;
      }
      default:
        if (world.day == 500) return false;
        pass(world);
        return true;
    }
  }

  private static boolean told(World w, int p, int a, int b) {
    Integer old = w.persons.get(p).believes.put(a, b);
    return old == null || old != b;
  }

  private boolean walked(World w, int p, int a) {
    if (ground.ditch(w.persons.get(p).at, a) < 0) return false;
    w.persons.get(p).at = a;
    return true;
  }

  private void pass(World w) {
    List<Integer> c = course(w);
    for (int k = 0; k + 1 < c.size(); k++) {
      int d = ground.ditch(c.get(k), c.get(k + 1));
      w.ran.set(d, w.ran.get(d) + 1);
      for (Person p : w.persons) if (p.at == c.get(k)) p.believes.put(c.get(k), c.get(k + 1));
    }
    w.day++;
  }

  int book(int n) {
    String s = text(n, 60);
    try {
      Tokens t = new Tokens(s);
      TreeMap<Integer, Integer> read = new TreeMap<>();
      while (!t.ended()) {
        int a = t.number(0, ground.heights.size() - 1);
        if (read.containsKey(a)) throw new Fault(2, t.lastAt());
        read.put(a, linked(t, ground, a));
        t.sign(";");
      }
      lines = read;
    } catch (Fault f) { return faulty(f); }
    return lines.size();
  }

  int fault() { return faultAt; }

  int undo() {
    if (undone.isEmpty()) return -1;
    world = undone.remove(undone.size() - 1);
    refused = 0;
    return undone.size();
  }

  // ---- where it goes

  private int draw(World w, int a, int b) {
    int belief = 0;
    int all = 0;
    int near = 0;
    for (Person p : w.persons) {
      Integer x = p.believes.get(a);
      if (x != null) all += p.trust;
      if (x != null && x == b) belief += p.trust;
      if (p.at == a) near++;
      if (p.at == b) near++;
    }
    int d = ground.ditch(a, b);
    return clamp(formula.value(Map.of("fall", ground.heights.get(a) - ground.heights.get(b), "belief", belief,
        "doubt", all - belief, "near", near, "dug", w.dug.get(d), "ran", w.ran.get(d), "day", w.day, "from", a, "to", b)));
  }

  private static int clamp(int v) { return Math.max(-99, Math.min(99, v)); }

  private int next(World w, int a) {
    TreeMap<Integer, Integer> byDraw = new TreeMap<>();
    for (int b = ground.heights.size() - 1; b >= 0; b--) if (ground.ditch(a, b) >= 0) byDraw.put(draw(w, a, b), b);
    return byDraw.isEmpty() || byDraw.lastKey() <= 0 ? -1 : byDraw.lastEntry().getValue();
  }

  private List<Integer> course(World w) {
    List<Integer> c = new ArrayList<>();
    int at = ground.heights.isEmpty() ? -1 : ground.spring;
    while (at >= 0 && !c.contains(at)) {
      c.add(at);
      at = next(w, at);
    }
    return c;
  }

  private static int bits(Iterable<Integer> all) {
    int bits = 0;
    for (int x : all) bits |= 1 << x;
    return bits;
  }

  private static int last(List<Integer> c) { return c.isEmpty() ? -1 : c.get(c.size() - 1); }

  // ---- refusals

  private IllegalArgumentException illegal() { illegal++; return new IllegalArgumentException(); }
  private void within(int v, int least, int most) { if (v < least || v > most) throw illegal(); }
  private void member(int v, int many) {
    if (v >= 0 && v < many) return;
    missing++;
    throw new NoSuchElementException();
  }
  private void isPlace(int v) { member(v, ground.heights.size()); }
  private void isPerson(int v) { member(v, world.persons.size()); }

  // ---- what is told

  private static int believed(World w) {
    int sum = 0;
    for (Person p : w.persons) sum += p.believes.size();
    return sum;
  }

  int told(int what) {
    within(what, 0, 10);
    List<Integer> c = course(world);
    return List.of(ground.heights.size(), ground.ditches.size(), world.persons.size(), world.day, ground.spring,
        c.size(), bits(c), last(c), believed(world), lines.size(), refused).get(what);
  }

  int place(int place, int what) {
    isPlace(place);
    within(what, 0, 4);
    int links = 0;
    int there = 0;
    for (int b = 0; b < ground.heights.size(); b++) if (ground.ditch(place, b) >= 0) links |= 1 << b;
    for (int p = 0; p < world.persons.size(); p++) if (world.persons.get(p).at == place) there |= 1 << p;
    return List.of(ground.heights.get(place), links, there, next(world, place), course(world).indexOf(place)).get(what);
  }

  int ditch(int ditch, int what) {
    member(ditch, ground.ditches.size());
    within(what, 0, 3);
    int[] d = ground.ditches.get(ditch);
    return List.of(d[0], d[1], world.dug.get(ditch), world.ran.get(ditch)).get(what);
  }

  int person(int person, int what) {
    isPerson(person);
    within(what, 0, 3);
    Person p = world.persons.get(person);
    int so = 0;
    for (Map.Entry<Integer, Integer> e : p.believes.entrySet()) if (next(world, e.getKey()) == e.getValue()) so++;
    return List.of(p.trust, p.at, p.believes.size(), so).get(what);
  }

  int belief(int person, int place) {
    isPerson(person);
    isPlace(place);
    return world.persons.get(person).believes.getOrDefault(place, -1);
  }

  int pull(int from, int to) {
    isPlace(from);
    isPlace(to);
    return ground.ditch(from, to) < 0 ? -100 : draw(world, from, to);
  }

  int would(int fall, int belief, int doubt, int near, int dug, int ran, int day, int from, int to) {
    if (fall < -60 || fall > 60 || belief < 0 || belief > 54 || doubt < 0 || doubt > 54 || near < 0 || near > 6
        || dug < 0 || dug > 9 || ran < 0 || ran > 999 || day < 0 || day > 500 || from < 0 || from > 11 || to < 0 || to > 11) {
      throw illegal();
    }
    return clamp(formula.value(Map.of("fall", fall, "belief", belief, "doubt", doubt, "near", near, "dug", dug,
        "ran", ran, "day", day, "from", from, "to", to)));
  }

  int course(int k) {
    within(k, 0, Integer.MAX_VALUE);
    List<Integer> c = course(world);
    return k < c.size() ? c.get(k) : -1;
  }

  private List<Integer> courseIn(int days) {
    World w = world.copy();
    for (int k = 0; k < days; k++) pass(w);
    return course(w);
  }

  int ahead(int n, int what) {
    within(n, 0, 99);
    within(what, 0, 1);
    return what == 0 ? bits(courseIn(n)) : last(courseIn(n));
  }

  int stays() {
    List<List<Integer>> courses = new ArrayList<>();
    for (int k = 0; k <= 80; k++) courses.add(courseIn(k));
    for (int k = 0; k <= 60; k++) {
      boolean same = true;
      for (int j = 1; j <= 20; j++) same &= courses.get(k).equals(courses.get(k + j));
      if (same) return k;
    }
    return -1;
  }

  private List<int[]> tells() {
    List<int[]> all = new ArrayList<>();
    for (int a = 0; a < ground.heights.size(); a++) {
      for (int b = 0; b < ground.heights.size(); b++) if (ground.ditch(a, b) >= 0) all.add(new int[] {a, b});
    }
    return all;
  }

  int tellings(int person, int place, int what) {
    isPerson(person);
    isPlace(place);
    within(what, 0, 1);
    if (course(world).contains(place)) return what == 0 ? 0 : -1;
    for (int[] one : tells()) {
      World w = world.copy();
      if (told(w, person, one[0], one[1]) && course(w).contains(place)) return what == 0 ? 1 : 100 * one[0] + one[1];
    }
    for (int[] one : tells()) {
      World w = world.copy();
      if (!told(w, person, one[0], one[1])) continue;
      for (int[] two : tells()) {
        World v = w.copy();
        if (told(v, person, two[0], two[1]) && course(v).contains(place)) return what == 0 ? 2 : 100 * one[0] + one[1];
      }
    }
    return -1;
  }

  private World without(int set) {
    World w = world.copy();
    for (int p = 0; p < w.persons.size(); p++) if ((set >> p & 1) != 0) w.persons.get(p).believes.clear();
    return w;
  }

  int silence(int place) {
    isPlace(place);
    for (int many = 0; many <= world.persons.size(); many++) {
      for (int set = 0; set < 1 << world.persons.size(); set++) {
        if (Integer.bitCount(set) == many && course(without(set)).contains(place)) return set;
      }
    }
    return -1;
  }

  private List<Integer> sets() {
    List<Integer> fit = new ArrayList<>();
    for (int set = 0; set < 1 << world.persons.size(); set++) {
      World w = without(set);
      boolean fits = true;
      for (Map.Entry<Integer, Integer> e : lines.entrySet()) fits &= next(w, e.getKey()) == e.getValue();
      if (fits) fit.add(set);
    }
    return fit;
  }

  int who(int what) {
    within(what, 0, 2);
    List<Integer> fit = sets();
    if (what == 0) return fit.size();
    if (what == 1) return fit.isEmpty() ? -1 : fit.get(0);
    int sure = fit.isEmpty() ? 0 : -1;
    for (int set : fit) sure &= set;
    return sure;
  }

  int look(int what) {
    within(what, 0, 1);
    int best = -1;
    int fewest = -1;
    for (int x = 0; x < ground.heights.size(); x++) {
      if (lines.containsKey(x)) continue;
      TreeMap<Integer, Integer> left = new TreeMap<>();
      for (int set : sets()) left.merge(next(without(set), x), 1, Integer::sum);
      int worst = 0;
      for (int v : left.values()) worst = Math.max(worst, v);
      if (best < 0 || worst < fewest) {
        best = x;
        fewest = worst;
      }
    }
    return what == 0 ? best : fewest;
  }

  int digs(int from, int to) {
    isPlace(from);
    isPlace(to);
    int d = ground.ditch(from, to);
    if (d < 0) return -1;
    World w = world.copy();
    int more = 0;
    while (next(w, from) != to) {
      if (w.dug.get(d) == 9) return -1;
      w.dug.set(d, w.dug.get(d) + 1);
      more++;
    }
    return more;
  }

  private int[][] ways() {
    int n = ground.heights.size();
    int[][] far = new int[n][n];
    for (int a = 0; a < n; a++) for (int b = 0; b < n; b++) far[a][b] = a == b ? 0 : ground.ditch(a, b) >= 0 ? 1 : 1000;
    for (int m = 0; m < n; m++) for (int a = 0; a < n; a++) for (int b = 0; b < n; b++) far[a][b] = Math.min(far[a][b], far[a][m] + far[m][b]);
    return far;
  }

  int way(int place, int other) {
    isPlace(place);
    isPlace(other);
    int far = ways()[place][other];
    return far >= 1000 ? -1 : far;
  }

  int meet(int person, int other, int what) {
    isPerson(person);
    isPerson(other);
    within(what, 0, 1);
    int[][] far = ways();
    int one = world.persons.get(person).at;
    int two = world.persons.get(other).at;
    int best = -1;
    int fewest = 999;
    for (int x = 0; x < far.length; x++) {
      if (far[one][x] + far[two][x] < fewest) {
        best = x;
        fewest = far[one][x] + far[two][x];
      }
    }
    return what == 0 || best < 0 ? best : fewest;
  }

  int sight() {
    int n = ground.heights.size();
    List<Integer> c = course(world);
    for (int many = 0; many <= n; many++) {
      for (int set = 0; set < 1 << n; set++) {
        if (Integer.bitCount(set) != many) continue;
        TreeSet<Integer> seen = new TreeSet<>();
        for (int a = 0; a < n; a++) {
          if ((set >> a & 1) == 0) continue;
          for (int b = 0; b < n; b++) if (a == b || ground.ditch(a, b) >= 0) seen.add(b);
        }
        if (seen.containsAll(c)) return set;
      }
    }
    return -1;
  }

  long seen(int n, int q, int part) {
    within(n, 0, 12);
    within(q, 0, 16);
    within(part, 0, 1);
    BigInteger above = BigInteger.ZERO;
    BigInteger choose = BigInteger.ONE;
    for (int k = 0; k <= n; k++) {
      if (k >= 2) above = above.add(choose.multiply(BigInteger.valueOf(q).pow(k)).multiply(BigInteger.valueOf(16 - q).pow(n - k)));
      choose = choose.multiply(BigInteger.valueOf(n - k)).divide(BigInteger.valueOf(k + 1));
    }
    BigInteger below = BigInteger.valueOf(16).pow(n);
    BigInteger common = above.gcd(below);
    return (part == 0 ? above : below).divide(common).longValueExact();
  }

  private int[] gains(int d, int one, int two) {
    World w = world.copy();
    for (int said : new int[] {one, two}) {
      Person p = new Person();
      p.trust = d;
      p.at = -1;
      p.believes.put(ground.spring, said);
      w.persons.add(p);
    }
    int goes = next(w, ground.spring);
    int worth = one == two ? 1 : 2;
    return new int[] {goes == one ? worth : 0, goes == two ? worth : 0};
  }

  int leaders(int d, int what) {
    within(d, 0, 30);
    within(what, 0, 2);
    List<Integer> said = new ArrayList<>();
    for (int b = 0; b < ground.heights.size(); b++) if (ground.ditch(ground.spring, b) >= 0) said.add(b);
    int rests = 0;
    int first = -1;
    int both = 0;
    for (int one : said) {
      for (int two : said) {
        int[] have = gains(d, one, two);
        boolean rest = true;
        for (int x : said) rest &= gains(d, x, two)[0] <= have[0] && gains(d, one, x)[1] <= have[1];
        if (!rest) continue;
        if (rests == 0) {
          first = 100 * one + two;
          both = have[0] + have[1];
        }
        rests++;
      }
    }
    return what == 0 ? rests : what == 1 ? first : both;
  }

  int share(int person, int persons, int n) {
    isPerson(person);
    within(n, 0, 99);
    if (persons >>> world.persons.size() != 0) throw illegal();
    if ((persons >> person & 1) == 0) return 0;
    int bound = 0;
    while (bound < 99) {
      int given = 0;
      for (int p = 0; p < world.persons.size(); p++) if ((persons >> p & 1) != 0) given += Math.min(world.persons.get(p).trust, bound + 1);
      if (given > n) break;
      bound++;
    }
    return Math.min(world.persons.get(person).trust, bound);
  }

  int right(int place, int what) {
    isPlace(place);
    within(what, 0, 1);
    int set = 0;
    for (int p = 0; p < world.persons.size(); p++) {
      Integer b = world.persons.get(p).believes.get(place);
      if (b != null && (b == next(world, place)) == (what == 0)) set |= 1 << p;
    }
    return set;
  }

  int blank(int what) {
    within(what, 0, 1);
    for (int trust = 9; trust > 0; trust--) {
      for (int p = 0; p < world.persons.size(); p++) {
        if (world.persons.get(p).trust == trust && world.persons.get(p).believes.isEmpty()) return what == 0 ? p : trust;
      }
    }
    return -1;
  }

  int uphill() {
    int set = 0;
    for (int a = 0; a < ground.heights.size(); a++) {
      int b = next(world, a);
      if (b >= 0 && ground.heights.get(b) > ground.heights.get(a)) set |= 1 << a;
    }
    return set;
  }

  private int seed;

  private int drawn(int by) {
    seed = (int) ((seed & 0xffffffffL) * 1103515245L + 12345L);
    return (seed >> 16 & 0x7fff) % by;
  }

  /** The World at the end, and walks in the last element. */
  private int yearOf(World w, int firstSeed, int days, int q) {
    seed = firstSeed;
    int walks = 0;
    for (int k = 0; k < days; k++) {
      if (!w.persons.isEmpty()) {
        int p = drawn(w.persons.size());
        int a = drawn(ground.heights.size());
        if (walked(w, p, a)) walks++;
        if (drawn(16) < q) w.persons.get(p).believes.remove(w.persons.get(p).at);
      }
      pass(w);
    }
    return walks;
  }

  int year(int firstSeed, int days, int q, int what) {
    if (days < 1 || days > 96 || q < 0 || q > 16 || what < 0 || what > 3) throw illegal();
    World w = world.copy();
    int walks = yearOf(w, firstSeed, days, q);
    return List.of(last(course(w)), believed(w), walks, bits(course(w))).get(what);
  }

  int span(int firstSeed, int many, int days, int q, int what, int place) {
    if (many < 1 || many > 20 || days < 1 || days > 96 || q < 0 || q > 16 || what < 0 || what > 2
        || place < 0 || place >= ground.heights.size()) {
      throw illegal();
    }
    TreeSet<Integer> lengths = new TreeSet<>();
    int come = 0;
    for (int k = 0; k < many; k++) {
      World w = world.copy();
      yearOf(w, firstSeed + k, days, q);
      lengths.add(course(w).size());
      if (course(w).contains(place)) come++;
    }
    return what == 0 ? lengths.first() : what == 1 ? lengths.last() : come;
  }

  int image() {
    if (kept.size() == 3) return -1;
    List<World> copies = new ArrayList<>();
    for (World w : undone) copies.add(w.copy());
    kept.add(new Kept(world.copy(), copies));
    return kept.size();
  }

  int restore() {
    if (kept.isEmpty()) return -1;
    Kept latest = kept.remove(kept.size() - 1);
    world = latest.world();
    undone = latest.undone();
    refused = 0;
    return kept.size();
  }

  int status(int what) { return what == 0 ? missing : what == 1 ? illegal : -1; }

  int count(int what) { return what == 0 ? kept.size() : what == 1 ? tape.length() : what == 2 ? undone.size() : -1; }
}
