import java.util.ArrayDeque;
import java.util.ArrayList;
import java.util.Arrays;
import java.util.Comparator;
import java.util.Deque;
import java.util.HashMap;
import java.util.LinkedHashMap;
import java.util.List;
import java.util.Map;
import java.util.TreeMap;

/**
 * The document once more, written for plainness alone: every question is answered by trying slot by slot,
 * metre by metre. RandomTest holds QuayBerths against it.
 */
public final class PlainQuay {
  private static final int NONE = -1;
  private static final Map<String, int[][]> LINES = new LinkedHashMap<>();
  static {
    LINES.put("quay", new int[][] {{50, 999}});
    LINES.put("gap", new int[][] {{0, 50}});
    LINES.put("keel", new int[][] {{0, 30}});
    LINES.put("channel", new int[][] {{0, 300}});
    LINES.put("rate", new int[][] {{1, 99}});
    LINES.put("loss", new int[][] {{0, 10}});
    LINES.put("section", new int[][] {{0, 999}, {0, 300}});
    LINES.put("crane", new int[][] {{0, 999}, {0, 999}});
    LINES.put("tide", new int[][] {{0, 335}, {0, 99}});
    LINES.put("gangs", new int[][] {{0, 6}, {0, 2}, {0, 9}});
    LINES.put("ship", new int[][] {
      {1, 400}, {0, 300}, {0, 300}, {0, 9999}, {0, 335}, {0, 999}, {0, 3}, {1, 8}, {1, 8}});
  }

  private record Ship(String name, int length, int draft, int out, int boxes, int from, int due, int rank,
                      int least, int most) { }

  private record Stay(int x, int t, int k) { }

  private record Token(char kind, int at, String text) { }

  private static final class Facts {
    final Map<String, Integer> one = new HashMap<>();
    final TreeMap<Integer, Integer> sections = new TreeMap<>();
    final List<int[]> cranes = new ArrayList<>();
    final TreeMap<Integer, Integer> tides = new TreeMap<>();
    final Map<Integer, Integer> gangs = new HashMap<>();
    final List<Ship> ships = new ArrayList<>();
    final int[] levels = new int[336];
    final int[] depths = new int[999];
    int lines;

    int get(String word, int without) {
      return one.getOrDefault(word, without);
    }
  }

  private String tape = "";
  private Facts facts;
  private int fault = 0;
  private int place = NONE;
  private TreeMap<Integer, Stay> stays = new TreeMap<>();
  private final Deque<TreeMap<Integer, Stay>> acts = new ArrayDeque<>();
  private final Map<Integer, TreeMap<Integer, Stay>> marks = new HashMap<>();
  private String written = "";

  public PlainQuay() {
    text(0);
  }

  public int feed(int a, int b, int c, int d, int e) {
    if (tape.length() + 20 > 1200) return NONE;
    StringBuilder more = new StringBuilder(tape);
    for (int word : new int[] {a, b, c, d, e}) {
      for (int i = 3; i >= 0; i--) more.append((char) (word >>> 8 * i & 255));
    }
    tape = more.toString();
    return tape.length();
  }

  public int text(int k) {
    if (k < 0 || k > tape.length()) return -2;
    String given = tape.substring(0, k);
    tape = "";
    fault = 0;
    place = NONE;
    Facts read = parse(given);
    if (read == null) return NONE;
    facts = read;
    for (int slot = 0; slot < 336; slot++) facts.levels[slot] = levelOf(slot);
    for (int metre = 0; metre < 999; metre++) facts.depths[metre] = depthOf(metre);
    stays = new TreeMap<>();
    acts.clear();
    marks.clear();
    return read.lines;
  }

  private Facts wrong(int what, int where) {
    fault = what;
    place = where;
    return null;
  }

  private static List<Token> tokens(String s) {
    List<Token> all = new ArrayList<>();
    int i = 0;
    while (i < s.length()) {
      char kind = kind(s.charAt(i));
      int j = i + 1;
      while (j < s.length() && (kind == 'a' || kind == '0') && kind(s.charAt(j)) == kind) j++;
      all.add(new Token(kind, i, s.substring(i, j)));
      i = j;
    }
    all.add(new Token('e', s.length(), ""));
    return all;
  }

  private static char kind(char c) {
    if (c >= 'a' && c <= 'z') return 'a';
    if (c >= '0' && c <= '9') return '0';
    if (c == ';') return ';';
    return c == ' ' || c == '\n' ? ' ' : '?';
  }

  private Facts parse(String s) {
    Facts f = new Facts();
    List<String> line = new ArrayList<>();
    boolean joined = false;
    for (Token token : tokens(s)) {
      if (token.kind == ' ') {
        joined = false;
        continue;
      }
      if (token.kind == 'e' && line.isEmpty()) return f;
      int what = faultOf(f, line, token, joined);
      if (what != 0) return wrong(what, token.at);
      if (token.kind == ';') {
        take(f, line);
        line.clear();
      } else {
        line.add(token.text);
      }
      joined = token.kind != ';';
    }
    return f;
  }

  private static int faultOf(Facts f, List<String> line, Token token, boolean joined) {
    String text = token.text;
    if (token.kind == '?' || token.kind == 'e') return 1;
    if (token.kind == 'a' && text.length() > 8 || token.kind == '0' && text.length() > 4) return 1;
    if (joined && token.kind != ';') return 1;
    if (line.isEmpty()) {
      if (!LINES.containsKey(text)) return 1;
      if (f.one.containsKey(text)) return 3;
      boolean full = text.equals("section") && f.sections.size() == 8 || text.equals("crane") && f.cranes.size() == 8
          || text.equals("tide") && f.tides.size() == 30 || text.equals("ship") && f.ships.size() == 14;
      return full ? 4 : 0;
    }
    String word = line.get(0);
    int[][] bounds = LINES.get(word);
    int words = word.equals("ship") ? 2 : 1;
    if (line.size() < words) {
      if (token.kind != 'a' || LINES.containsKey(text)) return 1;
      return f.ships.stream().anyMatch(one -> one.name.equals(text)) ? 3 : 0;
    }
    if (line.size() == words + bounds.length) return token.kind == ';' ? 0 : 1;
    if (token.kind != '0') return 1;
    int i = line.size() - words;
    int value = Integer.parseInt(text);
    if (value < bounds[i][0] || value > bounds[i][1]) return 2;
    if ((word.equals("crane") && i == 1 || word.equals("ship") && i == 8)
        && value < Integer.parseInt(line.get(line.size() - 1))) {
      return 2;
    }
    if (word.equals("section") && i == 0 && f.sections.containsKey(value)) return 3;
    if (word.equals("tide") && i == 0 && f.tides.containsKey(value)) return 3;
    if (word.equals("gangs") && i == 1 && f.gangs.containsKey(3 * Integer.parseInt(line.get(1)) + value)) return 3;
    return 0;
  }

  private static void take(Facts f, List<String> line) {
    f.lines++;
    String word = line.get(0);
    int words = word.equals("ship") ? 2 : 1;
    int[] n = line.stream().skip(words).mapToInt(Integer::parseInt).toArray();
    switch (word) {
      case "section" -> f.sections.put(n[0], n[1]);
      case "crane" -> f.cranes.add(n);
      case "tide" -> f.tides.put(n[0], n[1]);
      case "gangs" -> f.gangs.put(3 * n[0] + n[1], n[2]);
      case "ship" -> f.ships.add(new Ship(line.get(1), n[0], n[1], n[2], n[3], n[4], n[5], n[6], n[7], n[8]));
      default -> f.one.put(word, n[0]);
    }
  }

  public int fault(int what) {
    return what == 0 ? fault : what == 1 ? place : NONE;
  }

  private int quay() { return facts.get("quay", 300); }
  private int gap() { return facts.get("gap", 0); }
  private int keel() { return facts.get("keel", 0); }
  private int channel() { return facts.get("channel", 100); }
  private int rate() { return facts.get("rate", 12); }
  private int loss() { return facts.get("loss", 0); }
  private boolean noShip(int s) { return s < 0 || s >= facts.ships.size(); }
  private boolean noCrane(int c) { return c < 0 || c >= facts.cranes.size(); }
  private static boolean noSlot(int s) { return s < 0 || s > 335; }
  private boolean noMetre(int m) { return m < 0 || m >= quay(); }

  public int count(int what) {
    switch (what) {
      case 0: return quay();
      case 1: return gap();
      case 2: return keel();
      case 3: return channel();
      case 4: return rate();
      case 5: return loss();
      case 6: return facts.sections.size();
      case 7: return facts.cranes.size();
      case 8: return facts.tides.size();
      case 9: return facts.ships.size();
      case 10: return stays.size();
      case 11: return acts.size();
      case 12: return marks.size();
      case 13: return tape.length();
      case 14: return stays.keySet().stream().mapToInt(this::cost).sum();
      case 15: return stays.keySet().stream().mapToInt(s -> stays.get(s).k * work(s, stays.get(s).k)).sum();
      default: return NONE;
    }
  }

  public int depth(int metre) {
    return noMetre(metre) ? NONE : facts.depths[metre];
  }

  private int depthOf(int metre) {
    Map.Entry<Integer, Integer> section = facts.sections.floorEntry(metre);
    return section == null ? 100 : section.getValue();
  }

  public int shallow(int from, int to) {
    if (noMetre(from) || noMetre(to) || to < from) return NONE;
    int least = 999;
    for (int m = from; m <= to; m++) least = Math.min(least, depth(m));
    return least;
  }

  public int level(int slot) {
    return noSlot(slot) ? NONE : facts.levels[slot];
  }

  private int levelOf(int slot) {
    Map.Entry<Integer, Integer> a = facts.tides.floorEntry(slot);
    Map.Entry<Integer, Integer> b = facts.tides.higherEntry(slot);
    if (a == null && b == null) return 0;
    if (a == null) return b.getValue();
    if (b == null) return a.getValue();
    double part = (double) (b.getValue() - a.getValue()) * (slot - a.getKey()) / (b.getKey() - a.getKey());
    return (int) Math.floor(a.getValue() + part + 1e-9);
  }

  public int gangs(int day, int shift) {
    if (day < 0 || day > 6 || shift < 0 || shift > 2) return NONE;
    return facts.gangs.getOrDefault(3 * day + shift, facts.cranes.size());
  }

  public int crane(int crane, int what) {
    return noCrane(crane) || what < 0 || what > 1 ? NONE : facts.cranes.get(crane)[what];
  }

  public int ship(int ship, int what) {
    if (noShip(ship) || what < 0 || what > 17) return NONE;
    Ship s = facts.ships.get(ship);
    int[] told = {s.length, s.draft, s.out, s.boxes, s.from, s.due, s.rank, s.least, s.most};
    if (what < 9) return told[what];
    Stay y = stays.get(ship);
    if (y == null) return -2;
    int leaves = leaves(ship, y.t, y.k);
    int[] of = {y.x, y.t, y.k, work(ship, y.k), leaves, y.t - s.from, leaves - y.t - work(ship, y.k), late(ship),
        cost(ship)};
    return of[what - 9];
  }

  public int letter(int ship, int i) {
    if (noShip(ship) || i < 0 || i > 7) return NONE;
    String name = facts.ships.get(ship).name;
    return i < name.length() ? name.charAt(i) - 'a' + 1 : 0;
  }

  public int moves(int k) {
    return k < 1 || k > 8 ? NONE : Math.max(k, k * rate() * (100 - loss() * (k - 1)) / 100);
  }

  private boolean isOpen(int water, int slot) {
    return channel() + level(slot) >= water + keel();
  }

  public int open(int water, int slot) {
    return water < 0 || water > 300 || noSlot(slot) ? NONE : isOpen(water, slot) ? 1 : 0;
  }

  public int next(int water, int slot) {
    if (water < 0 || water > 300 || noSlot(slot)) return NONE;
    for (int s = slot; s < 336; s++) if (isOpen(water, s)) return s;
    return -2;
  }

  public int shut(int water, int what) {
    if (water < 0 || water > 300 || what < 0 || what > 1) return NONE;
    boolean[] row = new boolean[336];
    for (int s = 0; s < 336; s++) row[s] = !isOpen(water, s);
    return longest(row, what);
  }

  private static int longest(boolean[] row, int what) {
    for (int n = row.length; n > 0; n--) {
      for (int a = 0; a + n <= row.length; a++) {
        boolean all = row[a] && row[a + n - 1];
        for (int i = a; i < a + n && all; i++) all = row[i];
        if (all) return what == 0 ? n : a;
      }
    }
    return what == 0 ? 0 : -2;
  }

  public int tide(int from, int to, int what) {
    if (noSlot(from) || noSlot(to) || to < from || what < 0 || what > 3) return NONE;
    int found = level(from);
    for (int s = from; s <= to; s++) found = what < 2 ? Math.max(found, level(s)) : Math.min(found, level(s));
    if (what % 2 == 0) return found;
    for (int s = from; s <= to; s++) if (level(s) == found) return s;
    return NONE;
  }

  private int work(int ship, int k) {
    return Math.max(1, (int) Math.ceil(facts.ships.get(ship).boxes / (double) moves(k) - 1e-12));
  }

  private int leaves(int ship, int t, int k) {
    long from = (long) t + work(ship, k);
    return from > 335 ? -2 : next(facts.ships.get(ship).out, (int) from);
  }

  private int late(int ship) {
    Stay y = stays.get(ship);
    return Math.max(0, leaves(ship, y.t, y.k) - facts.ships.get(ship).due);
  }

  private int cost(int ship) {
    return late(ship) * new int[] {8, 4, 2, 1}[facts.ships.get(ship).rank];
  }

  /** Laws 1 to 5. */
  private int early(int ship, int x, int t, int k) {
    Ship s = facts.ships.get(ship);
    if (x < 0 || (long) x + s.length - 1 > quay() - 1) return 1;
    if (t < s.from) return 2;
    if (k < s.least || k > s.most) return 3;
    if (t > 335 || !isOpen(s.draft, t)) return 4;
    return leaves(ship, t, k) == -2 ? 5 : 0;
  }

  private int way(int ship, int x, int t, int k) {
    int bits = 0;
    int leaves = leaves(ship, t, k);
    int last = x + facts.ships.get(ship).length - 1;
    for (int other : stays.keySet()) {
      Stay y = stays.get(other);
      int otherLeaves = leaves(other, y.t, y.k);
      boolean together = false;
      for (int s = t; s < leaves; s++) together |= s >= y.t && s < otherLeaves;
      int otherLast = y.x + facts.ships.get(other).length - 1;
      int apart = x > otherLast ? x - otherLast : y.x > last ? y.x - last : 0;
      if (other != ship && together && apart < gap() + 1) bits |= 1 << other;
    }
    return bits;
  }

  public int breaks(int ship, int x, int t, int k) {
    if (noShip(ship)) return NONE;
    int early = early(ship, x, t, k);
    if (early != 0) return early;
    Ship s = facts.ships.get(ship);
    int leaves = leaves(ship, t, k);
    int bed = shallow(x, x + s.length - 1);
    for (int slot = t; slot < leaves; slot++) {
      if (bed + level(slot) < keel() + Math.max(s.draft, s.out)) return 6;
    }
    if (way(ship, x, t, k) != 0) return 7;
    if (gangsAreShort(ship, t, k)) return 8;
    TreeMap<Integer, Stay> with = new TreeMap<>(stays);
    with.put(ship, new Stay(x, t, k));
    int end = t + work(ship, k);
    for (int slot = t; slot < end; slot++) {
      if (dealt(with, slot, NONE) == null) return 9;
    }
    return 0;
  }

  private boolean gangsAreShort(int ship, int t, int k) {
    int end = t + work(ship, k);
    for (int slot = t; slot < end; slot++) {
      int sum = k;
      for (int other : stays.keySet()) if (other != ship && works(stays, other, slot)) sum += stays.get(other).k;
      if (sum > gangs(slot / 48, slot / 16 % 3)) return true;
    }
    return false;
  }

  private boolean works(TreeMap<Integer, Stay> all, int ship, int slot) {
    Stay y = all.get(ship);
    return slot >= y.t && slot < y.t + work(ship, y.k);
  }

  private List<Integer> atWork(TreeMap<Integer, Stay> all, int slot) {
    List<Integer> found = new ArrayList<>();
    for (int s : all.keySet()) if (works(all, s, slot)) found.add(s);
    found.sort(Comparator.comparingInt(s -> all.get(s).x));
    return found;
  }

  /** The ship of each crane, NONE without; null if they can't be dealt. */
  private int[] dealt(TreeMap<Integer, Stay> all, int slot, int missing) {
    int[] of = new int[facts.cranes.size()];
    Arrays.fill(of, NONE);
    int last = -1;
    for (int s : atWork(all, slot)) {
      int got = 0;
      int first = all.get(s).x;
      int end = first + facts.ships.get(s).length - 1;
      for (int c = last + 1; c < of.length && got < all.get(s).k; c++) {
        boolean reaches = false;
        for (int m = facts.cranes.get(c)[0]; m <= facts.cranes.get(c)[1] && !reaches; m++) reaches = m >= first && m <= end;
        if (c != missing && reaches) {
          of[c] = s;
          got++;
          last = c;
        }
      }
      if (got < all.get(s).k) return null;
    }
    return of;
  }

  public int inWay(int ship, int x, int t, int k) {
    if (noShip(ship)) return NONE;
    return early(ship, x, t, k) != 0 ? 0 : way(ship, x, t, k);
  }

  private Stay first(int ship, int k) {
    Ship s = facts.ships.get(ship);
    if (k < s.least || k > s.most) return null;
    for (int t = 0; t < 336; t++) {
      if (early(ship, 0, t, k) != 0 || gangsAreShort(ship, t, k)) continue; // laws 2 to 5 and 8 are the same at every x
      for (int x = 0; x < quay(); x += 10) {
        if (breaks(ship, x, t, k) == 0) return new Stay(x, t, k);
      }
    }
    return null;
  }

  private Stay byItself(int ship) {
    for (int k = facts.ships.get(ship).most; k >= facts.ships.get(ship).least; k--) {
      Stay found = first(ship, k);
      if (found != null) return found;
    }
    return null;
  }

  public int earliest(int ship, int k, int what) {
    if (noShip(ship) || k < 1 || k > 8 || what < 0 || what > 2) return NONE;
    Stay found = first(ship, k);
    if (found == null) return -2;
    return what == 0 ? found.t : what == 1 ? found.x : leaves(ship, found.t, k);
  }

  private void act() {
    acts.addLast(new TreeMap<>(stays));
    if (acts.size() > 12) acts.removeFirst();
  }

  public int put(int ship, int x, int t, int k) {
    if (noShip(ship) || stays.containsKey(ship)) return NONE;
    int law = breaks(ship, x, t, k);
    if (law != 0) return -law - 1;
    act();
    stays.put(ship, new Stay(x, t, k));
    return leaves(ship, t, k);
  }

  public int itself(int ship) {
    if (noShip(ship) || stays.containsKey(ship)) return NONE;
    Stay found = byItself(ship);
    if (found == null) return -2;
    act();
    stays.put(ship, found);
    return found.t;
  }

  public boolean away(int ship) {
    if (!stays.containsKey(ship)) return false;
    act();
    stays.remove(ship);
    return true;
  }

  public int move(int ship, int x, int t) {
    if (!stays.containsKey(ship) || x == 0 && t == 0) return NONE;
    Stay y = stays.get(ship);
    long newX = Math.max(-1, Math.min(5000, (long) y.x + x));
    long newT = Math.max(-1, Math.min(5000, (long) y.t + t));
    int law = breaks(ship, (int) newX, (int) newT, y.k);
    if (law != 0) return -law - 1;
    act();
    stays.put(ship, new Stay((int) newX, (int) newT, y.k));
    return leaves(ship, (int) newT, y.k);
  }

  public int swap(int one, int other) {
    if (!stays.containsKey(one) || !stays.containsKey(other) || one == other) return NONE;
    TreeMap<Integer, Stay> old = new TreeMap<>(stays);
    Stay a = stays.remove(one);
    Stay b = stays.remove(other);
    int law = breaks(one, b.x, b.t, a.k);
    if (law == 0) {
      stays.put(one, new Stay(b.x, b.t, a.k));
      law = breaks(other, a.x, a.t, b.k);
    }
    if (law == 0) {
      stays.put(other, new Stay(a.x, a.t, b.k));
    }
    TreeMap<Integer, Stay> made = stays;
    stays = old;
    if (law != 0) return -law - 1;
    act();
    stays = made;
    return leaves(one, b.t, a.k);
  }

  public int squeeze() {
    TreeMap<Integer, Stay> old = new TreeMap<>(stays);
    List<Integer> turn = new ArrayList<>(stays.keySet());
    turn.sort(Comparator.comparingInt((Integer s) -> old.get(s).t).thenComparingInt(s -> s));
    int earlier = 0;
    for (int s : turn) {
      Stay y = old.get(s);
      int t = 0;
      while (breaks(s, y.x, t, y.k) != 0) t++;
      if (t < y.t) earlier++;
      stays.put(s, new Stay(y.x, t, y.k));
    }
    if (earlier == 0) return NONE;
    TreeMap<Integer, Stay> made = stays;
    stays = old;
    act();
    stays = made;
    return earlier;
  }

  private static int ith(List<Integer> all, int i) {
    return i == NONE ? all.size() : i < all.size() ? all.get(i) : -2;
  }

  public int places(int ship, int t, int k, int i) {
    if (noShip(ship) || i < NONE) return NONE;
    List<Integer> all = new ArrayList<>();
    for (int x = 0; x < quay(); x += 10) if (breaks(ship, x, t, k) == 0) all.add(x);
    return ith(all, i);
  }

  public int hopeless() {
    TreeMap<Integer, Stay> old = stays;
    stays = new TreeMap<>();
    int bits = 0;
    for (int s = 0; s < facts.ships.size(); s++) if (byItself(s) == null) bits |= 1 << s;
    stays = old;
    return bits;
  }

  public int slack(int ship) {
    if (noShip(ship)) return NONE;
    Stay y = stays.get(ship);
    if (y == null) return -2;
    int most = 0;
    for (int d = 0; d < 336; d++) if (breaks(ship, y.x, y.t + d, y.k) == 0) most = d;
    return most;
  }

  public int along(int ship, int what) {
    if (noShip(ship) || what < 0 || what > 1) return NONE;
    Stay y = stays.get(ship);
    if (y == null) return -2;
    int step = what == 0 ? -1 : 1;
    int x = y.x;
    while (breaks(ship, x + step, y.t, y.k) == 0) x += step;
    return x;
  }

  private List<Integer> byRule(int rule) {
    List<Integer> all = new ArrayList<>();
    for (int s = 0; s < facts.ships.size(); s++) all.add(s);
    Comparator<Integer> rank = Comparator.comparingInt(s -> facts.ships.get(s).rank);
    Comparator<Integer> from = Comparator.comparingInt(s -> facts.ships.get(s).from);
    switch (rule) {
      case 0 -> all.sort(rank.thenComparing(from));
      case 1 -> all.sort(from.thenComparing(rank));
      case 2 -> all.sort(Comparator.comparingInt(s -> facts.ships.get(s).due));
      default -> all.sort(Comparator.comparingInt((Integer s) -> facts.ships.get(s).length).reversed());
    }
    return all;
  }

  public int order(int rule, int i) {
    return rule < 0 || rule > 3 || i < 0 ? NONE : ith(byRule(rule), i);
  }

  public int all(int rule) {
    if (rule < 0 || rule > 3) return NONE;
    if (stays.size() == facts.ships.size()) return -2;
    act();
    int put = 0;
    for (int s : byRule(rule)) {
      Stay found = stays.containsKey(s) ? null : byItself(s);
      if (found != null) {
        stays.put(s, found);
        put++;
      }
    }
    return put;
  }

  private List<Integer> bestOrder;
  private int bestOut;
  private int bestCost;

  private void orders(List<Integer> order, List<Integer> rest) {
    for (int s : rest) {
      List<Integer> longer = new ArrayList<>(order);
      longer.add(s);
      List<Integer> less = new ArrayList<>(rest);
      less.remove((Integer) s);
      orders(longer, less);
    }
    if (!rest.isEmpty()) return;
    TreeMap<Integer, Stay> old = new TreeMap<>(stays);
    int out = 0;
    int sum = 0;
    for (int s : order) {
      Stay found = byItself(s);
      if (found == null) {
        out++;
      } else {
        stays.put(s, found);
        sum += cost(s);
      }
    }
    stays = old;
    if (bestOrder == null || out < bestOut || out == bestOut && sum < bestCost) {
      bestOrder = order;
      bestOut = out;
      bestCost = sum;
    }
  }

  private boolean noFour() {
    List<Integer> rest = new ArrayList<>();
    for (int s = 0; s < facts.ships.size() && rest.size() < 4; s++) if (!stays.containsKey(s)) rest.add(s);
    bestOrder = null;
    orders(new ArrayList<>(), rest);
    return rest.isEmpty();
  }

  public int best(int what) {
    if (what < 0 || what > 5 || noFour()) return NONE;
    return what == 0 ? bestOut : what == 1 ? bestCost : ith(bestOrder, what - 2);
  }

  public int four() {
    if (noFour() || bestOut == bestOrder.size()) return NONE;
    act();
    int put = 0;
    for (int s : bestOrder) {
      Stay found = byItself(s);
      if (found != null) {
        stays.put(s, found);
        put++;
      }
    }
    return put;
  }

  private boolean there(int ship, int slot) {
    Stay y = stays.get(ship);
    return y != null && slot >= y.t && slot < leaves(ship, y.t, y.k);
  }

  public int at(int slot, int metre) {
    if (noSlot(slot) || noMetre(metre)) return NONE;
    for (int s : stays.keySet()) {
      int x = stays.get(s).x;
      if (there(s, slot) && metre >= x && metre < x + facts.ships.get(s).length) return s;
    }
    return -2;
  }

  public int lies(int slot, int i) {
    if (noSlot(slot) || i < NONE) return NONE;
    List<Integer> all = new ArrayList<>();
    for (int s : stays.keySet()) if (there(s, slot)) all.add(s);
    all.sort(Comparator.comparingInt(s -> stays.get(s).x));
    return ith(all, i);
  }

  public int free(int slot, int what) {
    if (noSlot(slot) || what < 0 || what > 1) return NONE;
    boolean[] row = new boolean[quay()];
    for (int m = 0; m < row.length; m++) row[m] = at(slot, m) == -2;
    return longest(row, what);
  }

  public int works(int crane, int slot) {
    if (noCrane(crane) || noSlot(slot)) return NONE;
    int s = dealt(stays, slot, NONE)[crane];
    return s == NONE ? -2 : s;
  }

  public int hours(int crane) {
    if (noCrane(crane)) return NONE;
    int sum = 0;
    for (int slot = 0; slot < 336; slot++) if (works(crane, slot) >= 0) sum++;
    return sum;
  }

  private int movedIn(int ship, int slot) {
    Stay y = stays.get(ship);
    if (y == null || slot < y.t || slot >= y.t + work(ship, y.k)) return 0;
    boolean last = slot == y.t + work(ship, y.k) - 1;
    return last ? facts.ships.get(ship).boxes - (work(ship, y.k) - 1) * moves(y.k) : moves(y.k);
  }

  public int left(int ship, int slot) {
    if (noShip(ship) || noSlot(slot)) return NONE;
    int boxes = facts.ships.get(ship).boxes;
    for (int s = 0; s < slot; s++) boxes -= movedIn(ship, s);
    return boxes;
  }

  public int shift(int day, int shift, int what) {
    if (day < 0 || day > 6 || shift < 0 || shift > 2 || what < 0 || what > 3) return NONE;
    int boxes = 0;
    int most = 0;
    int sum = 0;
    for (int slot = 48 * day + 16 * shift; slot < 48 * day + 16 * shift + 16; slot++) {
      int cranes = atWork(stays, slot).stream().mapToInt(s -> stays.get(s).k).sum();
      most = Math.max(most, cranes);
      sum += cranes;
      for (int s : stays.keySet()) boxes += movedIn(s, slot);
    }
    return new int[] {boxes, most, sum, 16 * gangs(day, shift) - sum}[what];
  }

  public int busiest(int what) {
    if (what < 0 || what > 1) return NONE;
    int found = 0;
    for (int i = 0; i < 21; i++) if (shift(i / 3, i % 3, 0) > shift(found / 3, found % 3, 0)) found = i;
    return what == 0 ? found : shift(found / 3, found % 3, 0);
  }

  public int without(int crane) {
    if (noCrane(crane)) return NONE;
    int sum = 0;
    for (int slot = 0; slot < 336; slot++) if (dealt(stays, slot, crane) == null) sum++;
    return sum;
  }

  public int used(int day) {
    if (day < 0 || day > 6) return NONE;
    int sum = 0;
    for (int slot = 48 * day; slot < 48 * day + 48; slot++) {
      for (int s : stays.keySet()) if (there(s, slot)) sum += facts.ships.get(s).length;
    }
    return 100 * sum / (quay() * 48);
  }

  public int rank(int rank, int what) {
    if (rank < 0 || rank > 3 || what < 0 || what > 4) return NONE;
    int[] of = new int[5];
    for (int s = 0; s < facts.ships.size(); s++) {
      if (facts.ships.get(s).rank != rank) continue;
      of[0]++;
      if (!stays.containsKey(s)) continue;
      of[1]++;
      of[2] += late(s);
      of[3] = Math.max(of[3], late(s));
      of[4] += cost(s);
    }
    return of[what];
  }

  public int leaver(int i) {
    if (i < 0) return NONE;
    List<Integer> all = new ArrayList<>(stays.keySet());
    all.sort(Comparator.comparingInt(s -> leaves(s, stays.get(s).t, stays.get(s).k)));
    return ith(all, i);
  }

  public int meet(int one, int other) {
    if (noShip(one) || noShip(other) || one == other) return NONE;
    int sum = 0;
    for (int slot = 0; slot < 336; slot++) if (there(one, slot) && there(other, slot)) sum++;
    return sum;
  }

  public int write() {
    StringBuilder all = new StringBuilder();
    stays.forEach((s, y) -> all.append(facts.ships.get(s).name).append(' ').append(y.x).append(' ').append(y.t)
        .append(' ').append(y.k).append(';'));
    written = all.toString();
    return written.length();
  }

  public int octet(int i) {
    return i < 0 || i >= written.length() ? NONE : written.charAt(i);
  }

  public int differs(int mark) {
    if (!marks.containsKey(mark)) return NONE;
    int bits = 0;
    for (int s = 0; s < facts.ships.size(); s++) {
      Stay now = stays.get(s);
      Stay then = marks.get(mark).get(s);
      if (now == null ? then != null : !now.equals(then)) bits |= 1 << s;
    }
    return bits;
  }

  public int undo() {
    if (acts.isEmpty()) return NONE;
    stays = acts.removeLast();
    return acts.size();
  }

  public int mark(int mark) {
    if (mark < 0 || mark > 3) return NONE;
    marks.put(mark, new TreeMap<>(stays));
    return stays.size();
  }

  public int back(int mark) {
    if (!marks.containsKey(mark)) return NONE;
    stays = new TreeMap<>(marks.get(mark));
    acts.clear();
    return stays.size();
  }
}
