import java.lang.reflect.InvocationTargetException;
import java.lang.reflect.Method;
import java.lang.reflect.Modifier;
import java.util.ArrayList;
import java.util.Arrays;
import java.util.Collections;
import java.util.HashMap;
import java.util.List;
import java.util.Map;

/**
 * Runs of calls told as rows: "put 0 10 2 1 = 6" is a call with its arguments and the answer that is due. min and max
 * stand for the least and the greatest int, a boolean counts 1 or 0; "tape:quay 60;" feeds those bytes, filled up to
 * twenties with blanks.
 */
public final class Runs {
  private static final int MOST_CALLS = 512;
  private static final Map<String, Method> FACE = new HashMap<>();

  static {
    for (Method method : QuayBerths.class.getDeclaredMethods()) {
      if (Modifier.isPublic(method.getModifiers())) FACE.put(method.getName(), method);
    }
  }

  private final Check check;
  private final String text;
  private final String[] ahead;

  /** Every object of these runs is told the text first, then has the rows ahead. */
  public Runs(Check check, String text, String... ahead) {
    this.check = check;
    this.text = text;
    this.ahead = ahead;
  }

  /** An object with a count of its calls: behind the 512th nothing is promised, so nothing may be tested. */
  private static final class Counted {
    private final QuayBerths quay = new QuayBerths();
    private int calls = 0;

    private int call(String told) {
      String[] parts = told.trim().split(" +");
      Method method = FACE.get(parts[0]);
      if (method == null || method.getParameterCount() != parts.length - 1) throw new IllegalStateException(told);
      Object[] arguments = new Object[parts.length - 1];
      for (int i = 0; i < arguments.length; i++) arguments[i] = number(parts[i + 1]);
      count(1);
      try {
        Object answer = method.invoke(quay, arguments);
        return answer instanceof Boolean yes ? yes ? 1 : 0 : (Integer) answer;
      } catch (InvocationTargetException | IllegalAccessException failed) {
        throw new IllegalStateException(told, failed);
      }
    }

    private void feed(String bytes) {
      count((bytes.length() + 19) / 20);
      Check.feed(quay, bytes);
    }

    private void count(int more) {
      calls += more;
      if (calls > MOST_CALLS) throw new IllegalStateException("more than 512 calls");
    }
  }

  private static int number(String told) {
    switch (told) {
      case "min": return Integer.MIN_VALUE;
      case "max": return Integer.MAX_VALUE;
      default: return Integer.parseInt(told);
    }
  }

  private Counted made() {
    Counted made = new Counted();
    if (!text.isEmpty()) {
      made.feed(text);
      int lines = made.call("text " + text.length());
      if (lines < 0) throw new IllegalStateException("fault " + made.call("fault 0") + " at " + made.call("fault 1") + " of " + text);
    }
    for (String row : ahead) run(made, row);
    return made;
  }

  private void run(Counted made, String row) {
    if (row.startsWith("tape:")) {
      made.feed(row.substring(5));
    } else if (row.contains("=")) {
      String[] sides = row.split("=");
      check.due(sides[0].trim(), made.call(sides[0]), number(sides[1].trim()));
    } else {
      made.call(row);
    }
  }

  /** All rows on one object. */
  public void are(String... rows) {
    Counted made = made();
    for (String row : rows) run(made, row);
  }

  /** Each row on an object of its own. */
  public void eachIs(String... rows) {
    for (String row : rows) run(made(), row);
  }

  /**
   * The call, with a number in the place of *, is refused with NONE just outside of the bounds, far outside of them and
   * where a number cut to fewer bits would lie within, and is not refused so at the bounds.
   */
  public void bounds(String call, int least, int greatest) {
    bounds(call, least, greatest, QuayBerths.NONE);
  }

  public void bounds(String call, int least, int greatest, int refusal) {
    for (int value : new int[] {least, greatest}) {
      String told = with(call, value);
      check.due(told + " is not refused", made().call(told) != refusal, true);
    }
    List<Integer> outside = new ArrayList<>(List.of(Integer.MIN_VALUE, Integer.MIN_VALUE + 1, Integer.MIN_VALUE + greatest,
        -65536 + greatest, -1000, least - 2, least - 1));
    if (greatest < Integer.MAX_VALUE) {
      outside.addAll(List.of(greatest + 1, greatest + 2, least + 1024, least + 65536, Integer.MAX_VALUE - 1, Integer.MAX_VALUE));
      if (greatest < least + 256) outside.add(least + 256);
    } else {
      outside.remove(2);
      outside.remove(2);
    }
    for (int value : outside) {
      String told = with(call, value);
      check.due(told, made().call(told), refusal);
    }
  }

  private static String with(String call, int value) {
    return call.replace("*", Integer.toString(value));
  }

  /** Each row is answered as due, if that is told, and an object that had it answers all as one that had not. */
  public void changesNothing(String... rows) {
    for (String row : rows) {
      String[] more = Arrays.copyOf(ahead, ahead.length + 1);
      more[ahead.length] = row;
      answersAs(new Runs(check, text, more), row, "");
    }
  }

  /** The stays of these runs and those of others are the same: all that is told of them is, however they came to be. */
  public void lieAs(Runs other, String behind) {
    for (List<String> watch : asked()) {
      Counted one = made();
      Counted another = other.made();
      for (String call : watch) {
        if (!call.matches("(count 1[12]|differs .*)")) check.due(call + " behind " + behind, another.call(call), one.call(call));
      }
    }
  }

  /** Objects of these runs and those of others answer all calls alike, but those that begin as told. */
  public void answersAs(Runs other, String behind, String but) {
    for (List<String> watch : watches()) {
      Counted one = made();
      Counted another = other.made();
      for (String call : watch) {
        if (but.isEmpty() || !call.startsWith(but)) check.due(call + " behind " + behind, another.call(call), one.call(call));
      }
    }
  }

  /** Rows of calls that only ask, once from the last one on, too: what a call leaves behind may hide from the next one. */
  private List<List<String>> asked() {
    Counted made = made();
    int ships = made.call("count 9");
    int cranes = made.call("count 7");
    List<List<String>> all = new ArrayList<>(List.of(told(ships, cranes), lying(ships, cranes), reckoned(ships)));
    for (int i = 0; i < 3; i++) {
      List<String> backwards = new ArrayList<>(all.get(i));
      Collections.reverse(backwards);
      all.add(backwards);
    }
    return all;
  }

  /** Rows of calls that together tell all that can be told of an object: behind each a new one is needed. */
  private List<List<String>> watches() {
    Counted made = made();
    int ships = made.call("count 9");
    int tape = made.call("count 13");
    List<List<String>> all = asked();
    all.add(written());
    all.add(undone(ships));
    for (int mark = 0; mark < 4; mark++) all.add(behind(List.of("back " + mark, "undo"), ships));
    for (String act : List.of("squeeze", "four", "all 0", "all 3")) all.add(behind(List.of(act, "count 11", "undo"), ships));
    all.add(List.of("text " + (tape + 1), "count 13", "text " + tape, "fault 0", "fault 1", "count 0", "count 1", "count 9"));
    return all;
  }

  private static void each(List<String> calls, String call, int least, int greatest) {
    for (int value = least; value <= greatest; value++) calls.add(with(call, value));
  }

  private static List<String> told(int ships, int cranes) {
    List<String> calls = new ArrayList<>();
    each(calls, "count *", 0, 15);
    each(calls, "fault *", 0, 1);
    for (int metre = 0; metre < 1000; metre += 37) calls.add("depth " + metre);
    for (int slot = 0; slot < 336; slot += 13) calls.add("level " + slot);
    for (int day = 0; day < 7; day++) each(calls, "gangs " + day + " *", 0, 2);
    for (int crane = 0; crane < cranes; crane++) each(calls, "crane " + crane + " *", 0, 1);
    for (int ship = 0; ship < ships; ship++) each(calls, "ship " + ship + " *", 0, 17);
    for (int ship = 0; ship < ships; ship++) each(calls, "letter " + ship + " *", 0, 7);
    each(calls, "moves *", 1, 8);
    for (int water = 80; water < 130; water += 10) calls.add("shut " + water + " 0");
    return calls;
  }

  private static List<String> lying(int ships, int cranes) {
    List<String> calls = new ArrayList<>();
    for (int slot = 0; slot < 32; slot++) {
      calls.add("lies " + slot + " -1");
      calls.add("free " + slot + " 0");
      calls.add("free " + slot + " 1");
      each(calls, "works * " + slot, 0, Math.min(cranes, 3) - 1);
      each(calls, "left * " + slot, 0, Math.min(ships, 4) - 1);
    }
    for (int metre = 0; metre < 100; metre += 5) calls.add("at 5 " + metre);
    each(calls, "hours *", 0, cranes - 1);
    each(calls, "without *", 0, cranes - 1);
    each(calls, "leaver *", 0, ships);
    return calls;
  }

  private static List<String> reckoned(int ships) {
    List<String> calls = new ArrayList<>();
    for (int shift = 0; shift < 9; shift++) each(calls, "shift " + shift / 3 + " " + shift % 3 + " *", 0, 3);
    each(calls, "busiest *", 0, 1);
    each(calls, "used *", 0, 6);
    for (int rank = 0; rank < 4; rank++) each(calls, "rank " + rank + " *", 0, 4);
    for (int rule = 0; rule < 4; rule++) each(calls, "order " + rule + " *", 0, ships);
    for (int ship = 0; ship < ships; ship++) {
      calls.addAll(List.of("slack " + ship, "along " + ship + " 0", "along " + ship + " 1", "earliest " + ship + " 1 0",
          "earliest " + ship + " 1 1", "earliest " + ship + " 2 2", "breaks " + ship + " 10 5 1", "inWay " + ship + " 10 5 1",
          "places " + ship + " 5 1 -1", "meet 0 " + ship));
    }
    each(calls, "best *", 0, 5);
    calls.add("hopeless");
    each(calls, "differs *", 0, 3);
    return calls;
  }

  private static List<String> written() {
    List<String> calls = new ArrayList<>();
    each(calls, "octet *", 0, 70);
    calls.add("write");
    each(calls, "octet *", 0, 70);
    return calls;
  }

  private static List<String> stays(int ships) {
    List<String> calls = new ArrayList<>();
    for (int ship = 0; ship < ships; ship++) each(calls, "ship " + ship + " *", 9, 13);
    calls.addAll(List.of("count 10", "count 11", "count 15"));
    return calls;
  }

  private static List<String> undone(int ships) {
    List<String> calls = new ArrayList<>();
    for (int turn = 0; turn < 13; turn++) {
      calls.add("undo");
      each(calls, "ship * 9", 0, ships - 1);
      each(calls, "ship * 10", 0, ships - 1);
      each(calls, "ship * 11", 0, ships - 1);
    }
    return calls;
  }

  private static List<String> behind(List<String> calls, int ships) {
    List<String> all = new ArrayList<>();
    for (String call : calls) {
      all.add(call);
      all.addAll(stays(ships));
    }
    return all;
  }
}
