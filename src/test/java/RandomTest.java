import java.lang.reflect.InvocationTargetException;
import java.lang.reflect.Method;
import java.util.ArrayList;
import java.util.Comparator;
import java.util.List;
import java.util.Map;
import java.util.Random;
import java.util.TreeMap;

/** Random runs of calls, each call answered by QuayBerths and by PlainQuay: all promises, beside one another. */
public final class RandomTest {
  private static final String ACTS = " put itself away move swap squeeze all four ";
  private static final String DEAR = " best four hopeless all ";
  private static final String ALPHABET = "abcdefghijklmnopqrstuvwxyz";

  private final Random random;
  private final List<Method> methods = new ArrayList<>();
  private final Map<String, TreeMap<Integer, Integer>> seen = new TreeMap<>();
  private final List<String> told = new ArrayList<>();
  private QuayBerths quay;
  private PlainQuay plain;

  private RandomTest(long seed) {
    random = new Random(seed);
    for (Method method : QuayBerths.class.getDeclaredMethods()) {
      if (java.lang.reflect.Modifier.isPublic(method.getModifiers())) methods.add(method);
    }
    methods.sort(Comparator.comparing(Method::getName));
  }

  public static void main(String[] args) throws Exception {
    int runs = args.length > 0 ? Integer.parseInt(args[0]) : 120;
    long seed = args.length > 1 ? Long.parseLong(args[1]) : 1;
    RandomTest test = new RandomTest(seed);
    int wrong = 0;
    for (int run = 0; run < runs && wrong < 3; run++) {
      if (!test.run()) {
        wrong++;
        System.out.println("run " + run + " of seed " + seed + ":");
        for (String call : test.told) System.out.println("  " + call);
      }
    }
    if (args.length > 2) test.seen.forEach((name, answers) -> System.out.println(name + " " + answers));
    System.out.println(wrong == 0 ? runs + " runs are as due" : wrong + " runs are not as due");
    if (wrong != 0) System.exit(1);
  }

  private boolean run() throws Exception {
    quay = new QuayBerths();
    plain = new PlainQuay();
    told.clear();
    int calls = 512;
    String text = text();
    calls -= (text.length() + 19) / 20 + 1;
    if (!tell(text)) return false;
    int rest = calls;
    int style = random.nextInt(3);
    for (int i = 0; i < rest; i++) {
      if (random.nextInt(150) == 0) {
        String other = text();
        if (random.nextInt(3) > 0) other = spoilt(other);
        i += (other.length() + 19) / 20 + 1;
        if (i < rest && !tell(other)) return false;
        continue;
      }
      Method method = methods.get(random.nextInt(methods.size()));
      String name = " " + method.getName() + " ";
      if (name.equals(" text ") && random.nextInt(20) > 0) continue;
      if (name.equals(" back ") && random.nextInt(3) > 0) continue;
      if (DEAR.contains(name) && random.nextInt(4) > 0) continue;
      if (style > 0 && random.nextInt(3) == 0) method = named(random.nextInt(3) > 0 ? "put" : "itself");
      if (!same(method, arguments(method))) return false;
    }
    return true;
  }

  private Method named(String name) {
    for (Method method : methods) if (method.getName().equals(name)) return method;
    throw new IllegalStateException(name);
  }

  private boolean tell(String text) throws Exception {
    for (int at = 0; at < text.length(); at += 20) {
      int[] five = Check.words(text, at);
      if (!same(named("feed"), new Object[] {five[0], five[1], five[2], five[3], five[4]})) return false;
    }
    told.add("// " + text.replace("\n", "\\n"));
    return same(named("text"), new Object[] {text.length()}) && same(named("fault"), new Object[] {0})
        && same(named("fault"), new Object[] {1});
  }

  private boolean same(Method method, Object[] arguments) throws Exception {
    Object want = PlainQuay.class.getMethod(method.getName(), method.getParameterTypes()).invoke(plain, arguments);
    Object got;
    try {
      got = method.invoke(quay, arguments);
    } catch (InvocationTargetException thrown) {
      got = thrown.getCause();
    }
    StringBuilder call = new StringBuilder(method.getName()).append('(');
    for (Object argument : arguments) call.append(call.charAt(call.length() - 1) == '(' ? "" : ", ").append(argument);
    told.add(call.append(") = ").append(got).toString());
    int answer = want instanceof Boolean yes ? yes ? 1 : 0 : (Integer) want;
    seen.computeIfAbsent(method.getName(), name -> new TreeMap<>()).merge(Math.min(answer, 12), 1, Integer::sum);
    if (want.equals(got)) return true;
    told.add("due is " + want);
    return false;
  }

  private Object[] arguments(Method method) {
    String name = method.getName();
    int n = method.getParameterCount();
    Object[] all = new Object[n];
    int ship = random.nextInt(Math.max(1, plain.count(9)));
    String kinds = switch (name) {
      case "feed" -> "nnnnn";
      case "text" -> "b";
      case "fault", "busiest" -> "2";
      case "count" -> "c";
      case "depth" -> "m";
      case "shallow" -> "mm";
      case "level" -> "s";
      case "gangs" -> "dh";
      case "crane" -> "k2";
      case "ship" -> "SF";
      case "letter" -> "SL";
      case "moves" -> "L";
      case "open", "next" -> "ws";
      case "shut" -> "w2";
      case "tide" -> "ss4";
      case "breaks", "inWay", "put" -> "SxtK";
      case "earliest" -> "SK4";
      case "itself", "away", "slack" -> random.nextBoolean() ? "S" : "Y";
      case "move" -> random.nextInt(5) == 0 ? "SXT" : "YXT";
      case "swap", "meet" -> random.nextInt(5) == 0 ? "SS" : "YY";
      case "places" -> "StKi";
      case "along" -> random.nextBoolean() ? "S2" : "Y2";
      case "order" -> "4i";
      case "all", "differs", "mark", "back" -> "4";
      case "best" -> "6";
      case "at" -> "sm";
      case "lies" -> "si";
      case "free" -> "s2";
      case "works" -> "ks";
      case "hours", "without" -> "k";
      case "left" -> "Ss";
      case "shift" -> "dh4";
      case "used" -> "d";
      case "rank" -> "45";
      case "leaver" -> "i";
      case "octet" -> "o";
      default -> "";
    };
    if (kinds.length() != n) throw new IllegalStateException(name);
    for (int i = 0; i < n; i++) {
      all[i] = kinds.charAt(i) == 'S' && i == 0 && random.nextInt(30) > 0 ? ship : argument(kinds.charAt(i), ship);
    }
    return all;
  }

  private int some(int least, int greatest) {
    return least + random.nextInt(greatest - least + 1);
  }

  private int argument(char kind, int ship) {
    if (random.nextInt(60) == 0) {
      int[] edges = {Integer.MIN_VALUE, -1000, -3, -2, -1, 0, 335, 336, 337, 1000, Integer.MAX_VALUE - 1, Integer.MAX_VALUE};
      return edges[random.nextInt(edges.length)];
    }
    switch (kind) {
      case 'n': return random.nextInt();
      case 'b': return some(-1, plain.count(13) + 1);
      case 'c': return some(-1, 16);
      case 'm': return some(-1, plain.count(0));
      case 's': return random.nextInt(3) == 0 ? some(-1, 336) : some(0, 90);
      case 'd': return random.nextInt(2) == 0 ? some(-1, 7) : some(0, 2);
      case 'h': return some(-1, 3);
      case 'k': return some(-1, plain.count(7));
      case 'S': return random.nextInt(30) == 0 ? some(-1, plain.count(9)) : some(0, Math.max(0, plain.count(9) - 1));
      case 'Y': return plain.count(10) == 0 ? 0 : plain.leaver(random.nextInt(plain.count(10)));
      case 'F': return random.nextInt(2) == 0 ? some(-1, 18) : some(9, 17);
      case 'L': return some(-1, 9);
      case 'K': return random.nextInt(3) == 0 ? some(0, 9) : plain.count(9) == 0 ? 1
          : some(plain.ship(ship, 7), plain.ship(ship, 8));
      case 'w': return random.nextInt(3) == 0 ? some(-1, 301) : some(80, 150);
      case 'x': return random.nextInt(3) == 0 ? some(-2, plain.count(0)) : 10 * some(0, plain.count(0) / 10);
      case 't': return random.nextInt(4) == 0 ? some(-2, 337) : plain.count(9) == 0 ? 0
          : plain.ship(ship, 4) + some(0, 30);
      case 'X': return random.nextInt(3) == 0 ? 0 : some(-60, 60);
      case 'T': return random.nextInt(3) == 0 ? 0 : some(-40, 40);
      case 'i': return some(-2, 8);
      case 'o': return some(-1, 120);
      case '2': return some(-1, 2);
      case '4': return some(-1, 4);
      case '5': return some(-1, 5);
      case '6': return some(-1, 6);
      default: throw new IllegalStateException();
    }
  }

  /** A text without a fault; its harbours are so small that ships come into one another's way. */
  private String text() {
    List<String> lines = new ArrayList<>();
    boolean full = random.nextInt(8) == 0;
    int quay = random.nextInt(4) == 0 ? some(50, 999) : some(80, 400);
    if (random.nextInt(8) > 0) lines.add("quay " + quay);
    else quay = 300;
    if (random.nextInt(2) == 0) lines.add("gap " + some(0, random.nextInt(3) == 0 ? 50 : 15));
    if (random.nextInt(2) == 0) lines.add("keel " + some(0, random.nextInt(3) == 0 ? 30 : 8));
    if (random.nextInt(2) == 0) lines.add("channel " + some(80, 150));
    if (random.nextInt(2) == 0) lines.add("rate " + (random.nextInt(4) == 0 ? some(1, 99) : some(5, 30)));
    if (random.nextInt(2) == 0) lines.add("loss " + some(0, 10));
    int sections = full ? 8 : random.nextInt(3) == 0 ? some(0, 8) : some(0, 2);
    for (int metre : distinct(sections, quay + 20)) {
      lines.add("section " + Math.min(999, metre) + " " + (random.nextInt(6) == 0 ? some(0, 300) : some(90, 160)));
    }
    addTides(lines, full);
    int cranes = full ? 8 : random.nextInt(4) == 0 ? some(0, 8) : some(2, 5);
    for (int i = 0; i < cranes; i++) {
      int first = some(0, quay);
      if (random.nextInt(4) > 0) first = Math.min(first, i * quay / (cranes + 1));
      lines.add("crane " + first + " " + some(random.nextInt(3) == 0 ? first : (first + quay) / 2, Math.min(999, first + quay)));
    }
    for (int shift : distinct(full ? 0 : random.nextInt(2) * some(0, 7), 21)) {
      lines.add("gangs " + shift / 3 + " " + shift % 3 + " " + some(0, random.nextInt(2) == 0 ? 9 : 5));
    }
    addShips(lines, quay, full);
    return joined(lines);
  }

  private void addTides(List<String> lines, boolean full) {
    int tides = full ? 30 : random.nextInt(3) == 0 ? some(0, 14) : some(0, 4);
    if (random.nextBoolean()) {
      boolean high = random.nextBoolean();
      for (int slot = some(0, 12); slot < 336 && tides > 0; slot += full ? 11 : some(8, 40), tides--, high = !high) {
        lines.add("tide " + slot + " " + (high ? some(30, 60) : some(0, 20)));
      }
    } else {
      for (int slot : distinct(tides, 336)) lines.add("tide " + slot + " " + some(0, 99));
    }
  }

  private void addShips(List<String> lines, int quay, boolean full) {
    int ships = full ? 14 : random.nextInt(8) == 0 ? some(0, 14) : some(2, 9);
    List<String> names = new ArrayList<>();
    while (names.size() < ships) {
      StringBuilder name = new StringBuilder();
      for (int i = some(1, random.nextInt(3) == 0 && !full ? 8 : 2); i > 0; i--) name.append(ALPHABET.charAt(random.nextInt(26)));
      if (!names.contains(name.toString()) && !name.toString().matches("gap|keel|rate|loss|tide|ship|quay|crane")) {
        names.add(name.toString());
      }
    }
    for (String name : names) {
      int least = some(1, random.nextInt(5) == 0 ? 8 : 2);
      int most = Math.min(8, least + some(0, random.nextInt(5) == 0 ? 7 : 2));
      int from = random.nextInt(8) == 0 ? some(0, 335) : some(0, 30);
      lines.add("ship " + name + " " + (random.nextInt(6) == 0 ? some(1, 400) : some(1, Math.max(2, quay / 2)))
          + " " + water() + " " + water() + " " + (random.nextInt(5) == 0 ? some(0, 9999) : some(0, 400)) + " " + from
          + " " + (random.nextInt(3) == 0 ? some(0, 999) : from + some(0, 30)) + " " + some(0, 3) + " " + least
          + " " + most);
    }
  }

  private int water() {
    return random.nextInt(12) == 0 ? some(0, 300) : some(40, random.nextInt(3) == 0 ? 130 : 100);
  }

  private List<Integer> distinct(int n, int below) {
    List<Integer> all = new ArrayList<>();
    while (all.size() < n) {
      int value = random.nextInt(below);
      if (!all.contains(value)) all.add(value);
    }
    return all;
  }

  private String joined(List<String> lines) {
    StringBuilder all = new StringBuilder();
    for (String line : lines) {
      String spaced = line;
      if (random.nextInt(10) == 0) spaced = " \n" + line.replace(" ", random.nextBoolean() ? "\n" : "  ") + " ";
      if (all.length() + spaced.length() + 1 > 1200) break;
      all.append(spaced).append(';');
    }
    return all.toString();
  }

  private String spoilt(String text) {
    StringBuilder all = new StringBuilder(text);
    for (int n = some(1, 2); n > 0; n--) {
      int at = random.nextInt(all.length() + 1);
      int way = random.nextInt(5);
      if (way == 0) {
        all.setLength(at);
      } else if (way == 1 && at < all.length()) {
        all.deleteCharAt(at);
      } else if (way == 2) {
        all.insert(at, " ;a0Z\t\u00e9\n9z".charAt(random.nextInt(10)));
      } else if (way == 3 && at < all.length()) {
        all.setCharAt(at, " ;a0Z\t\u00e9\n9z".charAt(random.nextInt(10)));
      } else {
        int end = all.indexOf(";", at) + 1;
        int begin = all.lastIndexOf(";", at) + 1;
        if (end > begin) all.append(all.substring(begin, end));
      }
    }
    if (all.length() > 1200) all.setLength(1200);
    return all.toString();
  }
}
