/**
 * "A call that is refused (NONE, -2 to -10, false) changes nothing but the tape, where it is told. Of several reasons NONE
 * comes first, then -2, and so on." Each refused call, and each one that only asks, is made on one of two like objects;
 * then both have to answer everything alike.
 */
public final class RefusedTest {
  private static final Check CHECK = new Check();

  /** LEVEL is 20 in slots 10 to 20, else 0: c comes and d leaves then alone. e is too long. */
  private static final String HARBOUR = "quay 120;gap 2;keel 1;channel 130;section 0 100;section 60 140;tide 9 0;tide 10 20;"
      + "tide 20 20;tide 21 0;gangs 0 1 1;crane 0 70;crane 40 119;ship a 30 80 70 48 2 3 0 1 2;ship b 20 60 60 24 0 9 1 1 1;"
      + "ship c 40 130 90 24 0 12 2 1 2;ship d 10 50 145 12 0 3 3 1 1;ship e 121 0 0 12 0 0 0 1 1;ship f 10 0 0 12 0 0 0 1 2;"
      + "ship g 10 0 0 12 0 0 0 1 2;";
  /**
   * a lies at 0 to 29 in slots 2 to 5, b at 51 to 70 in 3 and 4, c at 60 to 99 in 12 and 13, f at 70 to 79 in slot 6 with two
   * cranes. Two marks are made, eight bytes written, the latest text() was a fault, and the tape has a TEXT without one.
   */
  private static final String[] BUSY = {"put 0 0 2 1 = 6", "mark 0 = 1", "write = 8", "put 1 50 3 1 = 5", "put 2 60 12 1 = 14",
    "mark 2 = 3", "move 1 1 0 = 5", "put 5 70 6 2 = 7", "tape: gap 51;", "text 8 = -1", "tape:gap 3;quay 77;"};

  private static final String[] EXTREMES = {"min", "-1000", "-2", "-1", "7", "8", "1000", "max"};

  public static void main(String[] args) {
    Runs busy = new Runs(CHECK, HARBOUR, BUSY);
    feedAndText(busy);
    aFaultLeavesAllButTheTape();
    puts(busy);
    otherActs(busy);
    moves(busy);
    swaps(busy);
    marks(busy);
    callsThatAsk(busy);
    twelveActs();
    nobodyCanBePut();
    allLieThere();
    aNewObject();
    severalReasons(busy);
    CHECK.end();
  }

  /** "NONE if that would be more than 1200"; "-2: it has not so many, k is below 0 (the tape stays)" */
  private static void feedAndText(Runs busy) {
    busy.changesNothing("text 21 = -2", "text 1200 = -2", "text -1 = -2", "text min = -2", "text max = -2", "fault 2 = -1",
        "fault -1 = -1");
    String full = "gap 3;" + " ".repeat(1186) + "quay 77;";
    new Runs(CHECK, HARBOUR, "put 0 0 2 1 = 6", "tape:" + full).changesNothing("feed 0 0 0 0 0 = -1",
        "feed min max min max -1 = -1", "text 1201 = -2");
  }

  /** "NONE: a FAULT (all stays)", "(empty then)" */
  private static void aFaultLeavesAllButTheTape() {
    String[] busy = java.util.Arrays.copyOf(BUSY, BUSY.length - 1);
    Runs without = new Runs(CHECK, HARBOUR, busy);
    for (String text : new String[] {"x", "quay 77;gap 9;keel 3;channel 9;rate 9;loss 9;section 0 5;crane 1 2;crane 1 2;crane 1 2;"
        + "tide 0 9;gangs 0 0 7;ship z 20 8 8 8 8 8 1 2 2;quay 78;", "quay 77;ship b 20 8 8 8 8 8 1 2", "gap 3;quay 1000;"}) {
      String[] more = java.util.Arrays.copyOf(busy, busy.length + 2);
      more[busy.length] = "tape:" + text;
      more[busy.length + 1] = "text " + text.length() + " = -1";
      without.answersAs(new Runs(CHECK, HARBOUR, more), text, "fault");
    }
  }

  private static void puts(Runs busy) {
    for (String ship : EXTREMES) busy.changesNothing("put " + ship + " 0 8 1 = -1");
    busy.changesNothing("put 0 0 2 1 = -1", "put 0 0 100 1 = -1", "put 5 90 8 1 = -1", "put 1 min min min = -1");
    // LAWS 1 to 9
    busy.changesNothing("put 3 111 12 1 = -2", "put 3 -1 12 1 = -2", "put 3 min 12 1 = -2", "put 3 max 12 1 = -2",
        "put 3 60 -1 1 = -3", "put 3 60 min 1 = -3", "put 3 60 12 2 = -4", "put 3 60 12 0 = -4", "put 3 60 12 min = -4",
        "put 3 60 12 max = -4", "put 3 60 336 1 = -5", "put 3 60 max 1 = -5", "put 3 60 20 1 = -6", "put 3 100 5 1 = -7",
        "put 3 0 12 1 = -7", "put 3 60 12 1 = -8", "put 6 0 3 1 = -8", "put 6 100 3 1 = -9", "put 6 0 8 2 = -10", "put 6 20 16 2 = -9");
  }

  private static void otherActs(Runs busy) {
    for (String ship : EXTREMES) {
      busy.changesNothing("itself " + ship + " = -1", "away " + ship + " = 0", "move " + ship + " 1 1 = -1", "swap " + ship + " 0 = -1",
          "swap 0 " + ship + " = -1");
    }
    busy.changesNothing("itself 0 = -1", "itself 5 = -1", "itself 4 = -2", "away 3 = 0", "away 4 = 0", "away 6 = 0", "all -1 = -1",
        "all 4 = -1", "all min = -1", "all max = -1", "best 6 = -1", "best -1 = -1");
  }

  private static void moves(Runs busy) {
    busy.changesNothing("move 0 0 0 = -1", "move 3 1 1 = -1", "move 4 0 0 = -1");
    busy.changesNothing("move 0 -1 0 = -2", "move 0 91 0 = -2", "move 0 max 0 = -2", "move 0 min 0 = -2", "move 0 0 -1 = -3",
        "move 0 0 min = -3", "move 0 0 334 = -5", "move 0 0 max = -5", "move 2 0 -3 = -5", "move 0 0 333 = -6", "move 2 -1 0 = -7",
        "move 1 -30 0 = -8", "move 5 10 -3 = -9", "move 5 1 0 = -10");
  }

  private static void swaps(Runs busy) {
    busy.changesNothing("swap 0 0 = -1", "swap 0 3 = -1", "swap 3 0 = -1", "swap 3 4 = -1");
    busy.changesNothing("swap 0 2 = -5", "swap 2 0 = -5", "swap 1 2 = -5", "swap 0 5 = -10", "swap 5 0 = -10");
  }

  private static void marks(Runs busy) {
    for (String mark : new String[] {"min", "-1", "4", "max"}) {
      busy.changesNothing("mark " + mark + " = -1", "back " + mark + " = -1", "differs " + mark + " = -1");
    }
    busy.changesNothing("back 1 = -1", "back 3 = -1", "differs 1 = -1", "differs 3 = -1");
  }

  /** What only asks changes nothing, whatever it answers. */
  private static void callsThatAsk(Runs busy) {
    busy.changesNothing("fault 0", "count 14", "depth 5", "shallow 0 119", "level 5", "gangs 0 0", "crane 0 0", "ship 0 9", "letter 0 0",
        "moves 3", "open 140 5", "next 140 5", "shut 140 1", "tide 0 335 1", "octet 3", "differs 0");
    busy.changesNothing("at 4 60", "lies 4 -1", "lies 4 1", "free 4 0", "works 1 4", "hours 0", "left 0 4", "shift 0 0 0", "busiest 0",
        "without 0", "used 0", "rank 0 4", "leaver 1", "meet 0 1", "order 0 2");
    for (int ship = 0; ship < 7; ship++) {
      busy.changesNothing("breaks " + ship + " 30 4 1", "breaks " + ship + " 90 20 1", "inWay " + ship + " 30 4 1", "earliest " + ship + " 1 0",
          "earliest " + ship + " 2 1", "places " + ship + " 4 1 -1", "places " + ship + " 14 1 0", "slack " + ship, "along " + ship + " 0",
          "along " + ship + " 1");
    }
    busy.changesNothing("hopeless = 16", "best 0", "best 1", "best 2", "best 5");
  }

  /** With twelve ACTS kept a refused one drops none of them. */
  private static void twelveActs() {
    String[] acts = new String[14];
    acts[0] = "put 0 0 0 1 = 1";
    for (int i = 1; i < acts.length; i++) acts[i] = "move 0 1 0 = 1";
    Runs runs = new Runs(CHECK, "quay 60;crane 0 59;crane 0 59;ship a 20 0 0 12 0 0 0 1 1;ship b 61 0 0 12 0 0 0 1 1;", acts);
    runs.changesNothing("put 0 0 0 1 = -1", "put 1 0 0 1 = -2", "itself 0 = -1", "itself 1 = -2", "away 1 = 0", "move 0 0 0 = -1",
        "move 0 28 0 = -2", "swap 0 1 = -1", "squeeze = -1", "four = -1", "all 4 = -1", "back 0 = -1", "mark 4 = -1", "text 1 = -2");
  }

  private static void nobodyCanBePut() {
    Runs runs = new Runs(CHECK, "quay 60;ship a 20 0 0 12 0 0 0 1 1;ship b 61 0 0 12 0 0 0 1 1;", "mark 1 = 0");
    runs.changesNothing("put 0 0 0 1 = -9", "put 1 0 0 1 = -2", "itself 0 = -2", "itself 1 = -2", "squeeze = -1", "four = -1", "undo = -1",
        "move 0 1 1 = -1", "swap 0 1 = -1", "away 0 = 0");
  }

  private static void allLieThere() {
    Runs runs = new Runs(CHECK, "quay 60;crane 0 59;crane 0 59;ship a 20 0 0 12 0 0 0 1 1;ship b 30 0 0 12 1 0 0 1 1;", "put 0 0 0 1 = 1",
        "put 1 20 1 1 = 2");
    runs.changesNothing("all 0 = -2", "all 3 = -2", "all 4 = -1", "four = -1", "best 0 = -1", "best 2 = -1", "squeeze = -1", "itself 0 = -1",
        "put 1 0 5 1 = -1");
    // what was undone can't be undone once more
    new Runs(CHECK, "quay 60;crane 0 59;ship a 20 0 0 12 0 0 0 1 1;", "mark 0 = 0", "put 0 0 0 1 = 1", "mark 1 = 1", "undo = 0").changesNothing(
        "undo = -1");
    new Runs(CHECK, "quay 60;crane 0 59;ship a 20 0 0 12 0 0 0 1 1;", "put 0 0 0 1 = 1", "mark 1 = 1", "away 0 = 1", "back 1 = 1").changesNothing(
        "undo = -1");
  }

  private static void aNewObject() {
    new Runs(CHECK, "").changesNothing("text 1 = -2", "text -1 = -2", "put 0 0 0 1 = -1", "itself 0 = -1", "away 0 = 0", "move 0 1 1 = -1",
        "swap 0 1 = -1", "squeeze = -1", "all 0 = -2", "all 4 = -1", "four = -1", "best 0 = -1", "undo = -1", "back 0 = -1", "mark 4 = -1",
        "differs 0 = -1", "octet 0 = -1", "depth 300 = -1", "ship 0 0 = -1");
  }

  /** Calls with two reasons and more. */
  private static void severalReasons(Runs busy) {
    // NONE ahead of -2: no such SHIP and no STAY, no such what, no such RULE and not so many
    busy.eachIs("ship 7 9 = -1", "ship -1 17 = -1", "ship 3 18 = -1", "ship 3 9 = -2", "slack 7 = -1", "slack 3 = -2", "along 7 2 = -1",
        "along 7 0 = -1", "along 3 2 = -1", "along 3 0 = -2", "order 4 99 = -1", "order 0 -1 = -1", "order 0 99 = -2", "earliest 4 9 0 = -1",
        "earliest 4 1 3 = -1", "earliest 4 1 0 = -2", "earliest 7 1 0 = -1", "next 301 0 = -1", "next 300 336 = -1", "next 300 0 = -2",
        "shut 0 2 = -1", "shut 0 1 = -2", "at 336 0 = -1", "at 0 120 = -1", "lies 336 99 = -1", "lies 4 -2 = -1", "lies 4 99 = -2",
        "free 336 1 = -1", "works 2 4 = -1", "works 0 336 = -1", "works 0 335 = -2", "places 7 4 1 99 = -1", "places 4 4 1 -2 = -1",
        "places 4 4 1 0 = -2", "places 4 min max 0 = -2", "leaver -1 = -1", "leaver 99 = -2", "letter 7 8 = -1", "crane 2 2 = -1");
    busy.eachIs("itself 0 = -1", "itself 4 = -2", "move 0 0 0 = -1", "move 3 -999 0 = -1", "move 7 0 0 = -1", "swap 4 0 = -1", "swap 0 4 = -1",
        "put 7 -1 -1 0 = -1", "put 0 -1 -1 0 = -1", "put 4 0 -1 0 = -2", "put 3 0 -1 0 = -3", "put 3 0 336 0 = -4", "put 3 0 336 1 = -5",
        "put 3 0 20 1 = -6", "put 3 0 12 1 = -7", "put 6 60 3 2 = -8", "put 6 100 3 2 = -9", "put 6 0 8 2 = -10");
    Runs all = new Runs(CHECK, "quay 60;crane 0 59;ship a 20 0 0 12 0 0 0 1 1;", "put 0 0 0 1 = 1");
    all.eachIs("all 4 = -1", "all 0 = -2", "best 6 = -1", "best 0 = -1", "best 3 = -1", "text -1 = -2", "text 1 = -2");
  }
}
