import java.util.ArrayList;
import java.util.HashSet;
import java.util.List;
import java.util.Random;
import java.util.Set;
import java.util.TreeSet;

// Long runs of calls, always the same ones, answered by CubeDesk and by a slow model that says the document's terms
// as plainly as it can.
public final class ModelTest {
  private static final int RUNS = 5000;
  private static final int CALLS = 512;

  private static final class Fact {
    final int[] members;
    final int measure;
    boolean went = false;

    Fact(int[] members, int measure) {
      this.members = members;
      this.measure = measure;
    }
  }

  private static final class Model {
    // widths.get(d).get(l): members of told level l; parents.get(d).get(l)[m]: parent of m in the level above.
    final List<List<Integer>> widths = new ArrayList<>();
    final List<List<int[]>> parents = new ArrayList<>();
    final List<Fact> facts = new ArrayList<>();
    final int[] picks = new int[4];
    final List<int[]> filters = new ArrayList<>();
    final Set<Integer> kept = new TreeSet<>(Set.of(0));
    String out = "";
    int read = 0;

    int dims() { return widths.size(); }
    boolean isDim(int d) { return d >= 0 && d < dims(); }
    int all(int d) { return widths.get(d).size(); }
    boolean isLevel(int d, int l) { return l >= 0 && l <= all(d); }
    int width(int d, int l) { return l == all(d) ? 1 : widths.get(d).get(l); }
    boolean isMember(int d, int l, int m) { return m >= 0 && m < width(d, l); }

    int home(int d, int member, int level) {
      int at = member;
      for (int l = 0; l < level; l++) at = l == all(d) - 1 ? 0 : parents.get(d).get(l)[at];
      return at;
    }

    void onlyFirst() { kept.clear(); kept.add(0); }

    int dimension(int members) {
      if (members < 1 || members > 8) return CubeDesk.OUTSIDE;
      if (!facts.isEmpty()) return CubeDesk.STATE;
      if (dims() == 4) return CubeDesk.FULL;
      widths.add(new ArrayList<>(List.of(members)));
      parents.add(new ArrayList<>(List.of(new int[8])));
      filters.add(new int[] {1, 0});
      onlyFirst();
      return dims() - 1;
    }

    int level(int d, int members) {
      if (!isDim(d) || members < 1 || members > width(d, all(d) - 1)) return CubeDesk.OUTSIDE;
      if (!facts.isEmpty()) return CubeDesk.STATE;
      if (all(d) == 3) return CubeDesk.FULL;
      widths.get(d).add(members);
      parents.get(d).add(new int[8]);
      filters.set(d, new int[] {all(d), 0});
      onlyFirst();
      return all(d) - 1;
    }

    int parent(int d, int l, int m, int p) {
      if (!isDim(d) || l < 0 || l + 1 >= all(d)) return CubeDesk.OUTSIDE;
      if (!isMember(d, l, m) || !isMember(d, l + 1, p)) return CubeDesk.OUTSIDE;
      int was = parents.get(d).get(l)[m];
      parents.get(d).get(l)[m] = p;
      return was;
    }

    int lies(int d, int m, int l) {
      if (!isDim(d) || !isMember(d, 0, m) || !isLevel(d, l)) return CubeDesk.OUTSIDE;
      return home(d, m, l);
    }

    int members(int d, int l) { return isDim(d) && isLevel(d, l) ? width(d, l) : CubeDesk.OUTSIDE; }

    int fact(int measure) {
      for (int d = 0; d < dims(); d++) if (!isMember(d, 0, picks[d])) return CubeDesk.OUTSIDE;
      if (measure < -1000 || measure > 1000) return CubeDesk.OUTSIDE;
      if (facts.size() == 300) return CubeDesk.FULL;
      facts.add(new Fact(picks.clone(), measure));
      return facts.size() - 1;
    }

    int drop(int f) {
      if (f < 0 || f >= facts.size()) return CubeDesk.OUTSIDE;
      if (facts.get(f).went) return CubeDesk.STATE;
      facts.get(f).went = true;
      return facts.get(f).measure;
    }

    int pick(int d, int m) {
      if (d < 0 || d > 3 || m < 0 || m > 7) return CubeDesk.OUTSIDE;
      int was = picks[d];
      picks[d] = m;
      return was;
    }

    int cuboids() {
      int n = 1;
      for (int d = 0; d < dims(); d++) n *= all(d) + 1;
      return n;
    }

    boolean isCuboid(int c) { return c >= 0 && c < cuboids(); }

    int[] levels(int c) {
      int[] levels = new int[dims()];
      int rest = c;
      for (int d = dims() - 1; d >= 0; d--) {
        levels[d] = rest % (all(d) + 1);
        rest /= all(d) + 1;
      }
      return levels;
    }

    int levelOf(int c, int d) { return isCuboid(c) && isDim(d) ? levels(c)[d] : CubeDesk.OUTSIDE; }

    int digits(Fact f, int[] levels) {
      int n = 0;
      for (int d = 0; d < dims(); d++) n = n * 10 + home(d, f.members[d], levels[d]);
      return n;
    }

    TreeSet<Integer> groups(int c) {
      TreeSet<Integer> there = new TreeSet<>();
      int[] levels = levels(c);
      for (Fact f : facts) if (!f.went) there.add(digits(f, levels));
      return there;
    }

    int sizeOf(int c) { return groups(c).size(); }

    int[] sizes() {
      int[] sizes = new int[cuboids()];
      for (int c = 0; c < sizes.length; c++) sizes[c] = sizeOf(c);
      return sizes;
    }

    int size(int c) { return isCuboid(c) ? sizeOf(c) : CubeDesk.OUTSIDE; }

    boolean can(int c, int o) {
      int[] a = levels(c), b = levels(o);
      for (int d = 0; d < dims(); d++) if (a[d] > b[d]) return false;
      return true;
    }

    int serves(int c, int o) {
      if (!isCuboid(c) || !isCuboid(o)) return CubeDesk.OUTSIDE;
      return can(c, o) ? 1 : 0;
    }

    int keep(int c, boolean on) {
      if (!isCuboid(c)) return CubeDesk.OUTSIDE;
      if (c == 0 && !on) return CubeDesk.STATE;
      return (on ? kept.add(c) : kept.remove(c)) ? 1 : 0;
    }

    int kept(int c) { return isCuboid(c) ? (kept.contains(c) ? 1 : 0) : CubeDesk.OUTSIDE; }

    int serverOf(int c, Set<Integer> those, int[] sizes) {
      int best = 0;
      for (int o : those) if (can(o, c) && (sizes[o] < sizes[best] || sizes[o] == sizes[best] && o < best)) best = o;
      return best;
    }

    int cost(int c) {
      if (!isCuboid(c)) return CubeDesk.OUTSIDE;
      int[] sizes = sizes();
      return sizes[serverOf(c, kept, sizes)];
    }

    int server(int c) { return isCuboid(c) ? serverOf(c, kept, sizes()) : CubeDesk.OUTSIDE; }

    int gainOf(int c, int[] sizes) {
      if (kept.contains(c)) return 0;
      int sum = 0;
      for (int o = 0; o < sizes.length; o++)
        if (can(c, o)) sum += Math.max(0, sizes[serverOf(o, kept, sizes)] - sizes[c]);
      return sum;
    }

    int gain(int c) { return isCuboid(c) ? gainOf(c, sizes()) : CubeDesk.OUTSIDE; }

    int together(Set<Integer> those, int[] sizes) {
      int sum = 0;
      for (int o = 0; o < sizes.length; o++) sum += Math.max(0, sizes[0] - sizes[serverOf(o, those, sizes)]);
      return sum;
    }

    int choose(int k) {
      if (k < 0 || k > 8) return CubeDesk.OUTSIDE;
      onlyFirst();
      int[] sizes = sizes();
      for (int n = 0; n < k; n++) {
        int most = 0, chosen = -1;
        for (int c = 0; c < sizes.length; c++) {
          int gain = gainOf(c, sizes);
          if (gain > most) {
            most = gain;
            chosen = c;
          }
        }
        if (chosen < 0) break;
        kept.add(chosen);
      }
      return together(kept, sizes);
    }

    int best(int k) {
      if (k < 0 || k > 3) return CubeDesk.OUTSIDE;
      if (cuboids() > 64) return CubeDesk.STATE;
      int[] sizes = sizes();
      boolean[][] can = new boolean[sizes.length][sizes.length];
      for (int a = 0; a < sizes.length; a++) for (int b = 0; b < sizes.length; b++) can[a][b] = can(a, b);
      return k == 0 ? 0 : bestOf(sizes, can, k);
    }

    /** All triples with repeats, so that fewer than three are among them; k says how many may differ. */
    int bestOf(int[] sizes, boolean[][] can, int k) {
      int most = 0;
      for (int a = 0; a < sizes.length; a++)
        for (int b = a; b < (k < 2 ? a + 1 : sizes.length); b++)
          for (int c = b; c < (k < 3 ? b + 1 : sizes.length); c++) {
            int sum = 0;
            for (int o = 0; o < sizes.length; o++) {
              int cost = sizes[0];
              if (can[a][o]) cost = Math.min(cost, sizes[a]);
              if (can[b][o]) cost = Math.min(cost, sizes[b]);
              if (can[c][o]) cost = Math.min(cost, sizes[c]);
              sum += sizes[0] - cost;
            }
            most = Math.max(most, sum);
          }
      return most;
    }

    Integer valueOf(List<Integer> measures, int value) {
      if (measures.isEmpty()) return null;
      switch (value) {
        case 0: return measures.size();
        case 1: return measures.stream().mapToInt(m -> m).sum();
        case 2: return measures.stream().mapToInt(m -> m).min().getAsInt();
        default: return measures.stream().mapToInt(m -> m).max().getAsInt();
      }
    }

    int ask(int c, int value) {
      if (!isCuboid(c) || value < 0 || value > 3) return CubeDesk.OUTSIDE;
      int[] levels = levels(c);
      for (int d = 0; d < dims(); d++) if (!isMember(d, levels[d], picks[d])) return CubeDesk.OUTSIDE;
      read += cost(c);
      List<Integer> measures = new ArrayList<>();
      for (Fact f : facts) {
        boolean in = !f.went;
        for (int d = 0; d < dims(); d++) in &= home(d, f.members[d], levels[d]) == picks[d];
        if (in) measures.add(f.measure);
      }
      Integer answer = valueOf(measures, value);
      return answer == null ? CubeDesk.NONE : answer;
    }

    int group(int c, int k) {
      if (!isCuboid(c) || k < 0) return CubeDesk.OUTSIDE;
      List<Integer> there = new ArrayList<>(groups(c));
      return k < there.size() ? there.get(k) : CubeDesk.NONE;
    }

    int filter(int d, int l, int m) {
      if (!isDim(d) || !isLevel(d, l) || !isMember(d, l, m)) return CubeDesk.OUTSIDE;
      filters.set(d, new int[] {l, m});
      return 0;
    }

    List<Fact> inSight() {
      List<Fact> seen = new ArrayList<>();
      for (Fact f : facts) {
        boolean in = !f.went;
        for (int d = 0; d < dims(); d++) in &= home(d, f.members[d], filters.get(d)[0]) == filters.get(d)[1];
        if (in) seen.add(f);
      }
      return seen;
    }

    int total(int value) {
      if (value < 0 || value > 3) return CubeDesk.OUTSIDE;
      List<Integer> measures = new ArrayList<>();
      for (Fact f : inSight()) measures.add(f.measure);
      Integer answer = valueOf(measures, value);
      return answer == null ? (value < 2 ? 0 : CubeDesk.NONE) : answer;
    }

    boolean isSide(int side) { return side >= 0 && isDim(side / 10) && isLevel(side / 10, side % 10); }

    int table(int down, int across, int value) {
      if (!isSide(down) || !isSide(across) || value < 0 || value > 3) return CubeDesk.OUTSIDE;
      int dd = down / 10, dl = down % 10, ad = across / 10, al = across % 10;
      StringBuilder text = new StringBuilder();
      for (int r = 0; r <= width(dd, dl); r++) {
        List<String> cells = new ArrayList<>();
        for (int c = 0; c <= width(ad, al); c++) {
          List<Integer> measures = new ArrayList<>();
          for (Fact f : inSight()) {
            boolean inRow = r == width(dd, dl) || home(dd, f.members[dd], dl) == r;
            boolean inColumn = c == width(ad, al) || home(ad, f.members[ad], al) == c;
            if (inRow && inColumn) measures.add(f.measure);
          }
          Integer answer = valueOf(measures, value);
          cells.add(answer == null ? "." : answer.toString());
        }
        text.append(String.join(" ", cells)).append('\n');
      }
      out = text.toString();
      return out.length();
    }

    int out(int i) { return i >= 0 && i < out.length() ? out.charAt(i) : CubeDesk.NONE; }

    int count(int what) {
      switch (what) {
        case 0: return dims();
        case 1: return facts.size();
        case 2: return (int) facts.stream().filter(f -> !f.went).count();
        case 3: return kept.size();
        case 4: return out.length();
        case 5: return kept.stream().mapToInt(this::sizeOf).sum();
        default: return CubeDesk.OUTSIDE;
      }
    }
  }

  private final Random random;
  private final CubeDesk desk = new CubeDesk();
  private final Model model = new Model();
  private final int run;
  private int calls = 0;
  private static int wrong = 0;
  private static long asked = 0;
  private static int greedyIsNotBest = 0;
  private static final Set<String> seen = new HashSet<>();

  private ModelTest(int run) {
    this.run = run;
    this.random = new Random(run);
  }

  public static void main(String[] args) {
    for (int run = 0; run < RUNS && wrong < 20; run++) new ModelTest(run).play();
    String[] refusals = {
      "dimension OUTSIDE", "dimension STATE", "dimension FULL", "level OUTSIDE", "level STATE", "level FULL",
      "parent OUTSIDE", "lies OUTSIDE", "members OUTSIDE", "fact OUTSIDE", "fact FULL", "drop OUTSIDE", "drop STATE",
      "pick OUTSIDE", "levelOf OUTSIDE", "size OUTSIDE", "serves OUTSIDE", "keep OUTSIDE", "keep STATE", "kept OUTSIDE",
      "cost OUTSIDE", "server OUTSIDE", "gain OUTSIDE", "choose OUTSIDE", "best OUTSIDE", "best STATE", "ask OUTSIDE",
      "ask NONE", "group OUTSIDE", "group NONE", "filter OUTSIDE", "total OUTSIDE", "total NONE", "table OUTSIDE",
      "out NONE", "count OUTSIDE"};
    for (String refusal : refusals) {
      if (wrong == 0 && !seen.contains(refusal)) {
        wrong++;
        System.out.println("the runs never met " + refusal);
      }
    }
    if (wrong == 0 && greedyIsNotBest == 0) {
      wrong++;
      System.out.println("the runs never met a best choice above the chosen one");
    }
    System.out.println(asked + " answers looked at, " + wrong + " not as due, "
        + greedyIsNotBest + " best choices above the chosen ones");
    if (wrong != 0) System.exit(1);
  }

  private void due(String name, String arguments, int got, int want) {
    // What is answered behind the last call is free.
    calls++;
    if (calls > CALLS) return;
    asked++;
    if (want == CubeDesk.OUTSIDE) seen.add(name + " OUTSIDE");
    if (want == CubeDesk.STATE) seen.add(name + " STATE");
    if (want == CubeDesk.FULL) seen.add(name + " FULL");
    if (want == CubeDesk.NONE) seen.add(name + " NONE");
    if (got != want) {
      wrong++;
      System.out.println("run " + run + ": " + name + arguments + " answered " + got + ", due is " + want);
    }
  }

  /** Mostly 0 .. bound - 1, now and then just beside or far away. */
  private int about(int bound) {
    int dice = random.nextInt(60);
    if (dice == 0) return bound;
    if (dice == 1) return -1;
    if (dice == 2) return random.nextInt();
    return random.nextInt(Math.max(1, bound));
  }

  private int dim() { return about(model.dims()); }
  private int levelAt(int d) { return about(model.isDim(d) ? model.all(d) + 1 : 4); }
  private int memberAt(int d, int l) { return about(model.isDim(d) && model.isLevel(d, l) ? model.width(d, l) : 8); }
  private int cuboid() { return about(model.cuboids()); }
  private int side() { int d = dim(); return d * 10 + levelAt(d); }

  private void play() {
    boolean factsOnly = run % 50 == 7;
    makeSpace();
    for (int turn = 0; turn < CALLS && calls < CALLS && wrong < 20; turn++) {
      if (factsOnly && random.nextInt(10) < 7) callFact(); else callAny();
    }
  }

  private void makeSpace() {
    int dims = random.nextInt(5);
    for (int d = 0; d < dims; d++) {
      dimension(1 + random.nextInt(8));
      for (int l = random.nextInt(3); l > 0; l--) level(d, 1 + random.nextInt(model.width(d, model.all(d) - 1)));
    }
    for (int d = 0; d < dims; d++)
      for (int l = 0; l + 1 < model.all(d); l++)
        for (int m = 0; m < model.width(d, l); m++) parent(d, l, m, random.nextInt(model.width(d, l + 1)));
  }

  private void callFact() {
    if (random.nextInt(8) == 0) pick(random.nextInt(4), random.nextInt(8));
    for (int d = 0; d < model.dims(); d++)
      if (!model.isMember(d, 0, model.picks[d])) pick(d, random.nextInt(model.width(d, 0)));
    fact(random.nextInt(2001) - 1000);
  }

  private void callAny() {
    int d = dim(), l = levelAt(d), c = cuboid(), value = about(4);
    switch (random.nextInt(40)) {
      case 0: if (random.nextInt(6) == 0) dimension(1 + about(8)); break;
      case 1: if (random.nextInt(6) == 0) level(d, 1 + about(4)); break;
      case 2: parent(d, l, memberAt(d, l), memberAt(d, l + 1)); break;
      case 3: { int m = memberAt(d, 0); due("lies", "(" + d + ", " + m + ", " + l + ")", desk.lies(d, m, l), model.lies(d, m, l)); break; }
      case 4: due("members", "(" + d + ", " + l + ")", desk.members(d, l), model.members(d, l)); break;
      case 5: case 6: case 7: case 8: case 9: callFact(); break;
      case 10: { int m = about(1001) * (random.nextBoolean() ? 1 : -1); fact(m); break; }
      case 11: case 12: { int f = about(model.facts.size()); due("drop", "(" + f + ")", desk.drop(f), model.drop(f)); break; }
      case 13: case 14: case 15: pick(about(4), about(8)); break;
      case 16: due("cuboids", "()", desk.cuboids(), model.cuboids()); break;
      case 17: due("levelOf", "(" + c + ", " + d + ")", desk.levelOf(c, d), model.levelOf(c, d)); break;
      case 18: due("size", "(" + c + ")", desk.size(c), model.size(c)); break;
      case 19: { int o = cuboid(); due("serves", "(" + c + ", " + o + ")", desk.serves(c, o), model.serves(c, o)); break; }
      case 20: case 21: { boolean on = random.nextInt(3) > 0; due("keep", "(" + c + ", " + on + ")", desk.keep(c, on), model.keep(c, on)); break; }
      case 22: due("kept", "(" + c + ")", desk.kept(c), model.kept(c)); break;
      case 23: due("cost", "(" + c + ")", desk.cost(c), model.cost(c)); break;
      case 24: due("server", "(" + c + ")", desk.server(c), model.server(c)); break;
      case 25: if (isCheap(8)) due("gain", "(" + c + ")", desk.gain(c), model.gain(c)); break;
      case 26: if (isCheap(20)) choose(about(9)); break;
      case 27: if (isCheap(5)) best(about(4)); break;
      case 28: case 29: case 30: askSome(c, value); break;
      case 31: { int k = about(model.isCuboid(c) ? model.sizeOf(c) + 1 : 5); due("group", "(" + c + ", " + k + ")", desk.group(c, k), model.group(c, k)); break; }
      case 32: due("read", "()", desk.read(), model.read); break;
      case 33: { int m = memberAt(d, l); due("filter", "(" + d + ", " + l + ", " + m + ")", desk.filter(d, l, m), model.filter(d, l, m)); break; }
      case 34: if (model.isDim(d)) { int a = model.all(d); due("filter", "(" + d + ", " + a + ", 0)", desk.filter(d, a, 0), model.filter(d, a, 0)); } break;
      case 35: due("total", "(" + value + ")", desk.total(value), model.total(value)); break;
      case 36: case 37: table(side(), side(), value); break;
      case 38: { int i = about(model.out.length() + 1); due("out", "(" + i + ")", desk.out(i), model.out(i)); break; }
      default: { int what = about(6); due("count", "(" + what + ")", desk.count(what), model.count(what)); break; }
    }
  }

  /** The model is slow where there are many cuboids, so there it is asked only now and then. */
  private boolean isCheap(int seldom) { return model.cuboids() <= 24 || random.nextInt(seldom) == 0; }

  private void dimension(int m) { due("dimension", "(" + m + ")", desk.dimension(m), model.dimension(m)); }
  private void level(int d, int m) { due("level", "(" + d + ", " + m + ")", desk.level(d, m), model.level(d, m)); }
  private void parent(int d, int l, int m, int p) {
    due("parent", "(" + d + ", " + l + ", " + m + ", " + p + ")", desk.parent(d, l, m, p), model.parent(d, l, m, p));
  }
  private void fact(int m) { due("fact", "(" + m + ")", desk.fact(m), model.fact(m)); }
  private void pick(int d, int m) { due("pick", "(" + d + ", " + m + ")", desk.pick(d, m), model.pick(d, m)); }

  private void askSome(int c, int value) {
    if (model.isCuboid(c) && random.nextInt(4) > 0)
      for (int d = 0; d < model.dims(); d++) pick(d, random.nextInt(model.width(d, model.levels(c)[d])));
    due("ask", "(" + c + ", " + value + ")", desk.ask(c, value), model.ask(c, value));
    due("read", "()", desk.read(), model.read);
  }

  private void choose(int k) {
    due("choose", "(" + k + ")", desk.choose(k), model.choose(k));
    for (int c = 0; c < model.cuboids(); c++) due("kept", "(" + c + ")", desk.kept(c), model.kept(c));
  }

  private void best(int k) {
    int want = model.best(k);
    due("best", "(" + k + ")", desk.best(k), want);
    if (want >= 0) {
      Set<Integer> before = new TreeSet<>(model.kept);
      if (model.choose(k) < want) greedyIsNotBest++;
      model.kept.clear();
      model.kept.addAll(before);
    }
    due("count", "(3)", desk.count(3), model.count(3));
  }

  private void table(int down, int across, int value) {
    due("table", "(" + down + ", " + across + ", " + value + ")",
        desk.table(down, across, value), model.table(down, across, value));
    for (int i = 0; i <= model.out.length(); i++) due("out", "(" + i + ")", desk.out(i), model.out(i));
  }
}
