/**
 * The bounds of every int that a call of promises 4 to 53 takes: at the least and the greatest one it answers, just and far
 * outside of them it says NONE (away: false), up to the least and the greatest int.
 */
public final class CallBoundsTest {
  private static final Check CHECK = new Check();
  private static final int MAX = Integer.MAX_VALUE;
  private static final String HARBOUR = "quay 120;crane 0 119;crane 20 99;ship a 20 0 0 24 0 0 0 1 2;"
      + "ship bb 30 0 0 24 0 0 1 1 2;ship c 10 0 0 12 0 0 2 1 1;";
  /** a at 0 to 19 and bb at 30 to 59 in slots 0 and 1, c at 70 to 79 in slot 2. */
  private static final String[] ALL_LIE = {"put 0 0 0 1 = 2", "put 1 30 0 1 = 2", "put 2 70 2 1 = 3"};

  public static void main(String[] args) {
    told(new Runs(CHECK, HARBOUR));
    told(new Runs(CHECK, HARBOUR, ALL_LIE));
    tide(new Runs(CHECK, HARBOUR));
    staysOfShipsThatHaveNone(new Runs(CHECK, HARBOUR));
    staysOfShipsThatHaveOne(new Runs(CHECK, HARBOUR, ALL_LIE));
    staysLookedAt(new Runs(CHECK, HARBOUR));
    staysLookedAt(new Runs(CHECK, HARBOUR, ALL_LIE));
    all();
    whoLies(new Runs(CHECK, HARBOUR));
    whoLies(new Runs(CHECK, HARBOUR, ALL_LIE));
    ranksAndLeaving(new Runs(CHECK, HARBOUR));
    ranksAndLeaving(new Runs(CHECK, HARBOUR, ALL_LIE));
    written();
    marks();
    aFullHarbour();
    anEmptyHarbour();
    theShortestAndTheLongestQuay();
    CHECK.end();
  }

  private static void told(Runs runs) {
    runs.bounds("count *", 0, 15);
    runs.bounds("depth *", 0, 119);
    runs.bounds("shallow * 119", 0, 119);
    runs.bounds("shallow 0 *", 0, 119);
    runs.bounds("shallow 60 *", 60, 119);
    runs.bounds("shallow * 60", 0, 60);
    runs.eachIs("shallow min max = -1", "shallow max min = -1", "shallow min min = -1", "shallow max max = -1");
    runs.bounds("level *", 0, 335);
    runs.bounds("gangs * 0", 0, 6);
    runs.bounds("gangs 6 *", 0, 2);
    runs.bounds("crane * 0", 0, 1);
    runs.bounds("crane * 1", 0, 1);
    runs.bounds("crane 1 *", 0, 1);
    runs.bounds("ship * 0", 0, 2);
    runs.bounds("ship * 17", 0, 2);
    runs.bounds("ship 2 *", 0, 17);
    runs.bounds("letter * 0", 0, 2);
    runs.bounds("letter 1 *", 0, 7);
    runs.bounds("moves *", 1, 8);
  }

  private static void tide(Runs runs) {
    runs.bounds("open * 0", 0, 300);
    runs.bounds("open 0 *", 0, 335);
    runs.bounds("next * 0", 0, 300);
    runs.bounds("next 0 *", 0, 335);
    runs.bounds("next 300 *", 0, 335);
    runs.bounds("shut * 0", 0, 300);
    runs.bounds("shut * 1", 0, 300);
    runs.bounds("shut 0 *", 0, 1);
    runs.bounds("tide * 335 0", 0, 335);
    runs.bounds("tide 0 * 3", 0, 335);
    runs.bounds("tide 100 * 1", 100, 335);
    runs.bounds("tide * 100 2", 0, 100);
    runs.bounds("tide 0 335 *", 0, 3);
    runs.eachIs("tide min max 0 = -1", "tide max min 0 = -1", "tide max max 0 = -1", "tide min min 0 = -1");
  }

  private static void staysOfShipsThatHaveNone(Runs runs) {
    runs.bounds("put * 0 0 1", 0, 2);
    runs.bounds("itself *", 0, 2);
    runs.eachIs("away 0 = 0", "away 2 = 0", "away -1 = 0", "away 3 = 0", "away min = 0", "away max = 0");
    runs.bounds("slack *", 0, 2);
    runs.bounds("along * 0", 0, 2);
    runs.bounds("along * 1", 0, 2);
    runs.bounds("along 0 *", 0, 1);
    runs.eachIs("slack 0 = -2", "along 0 0 = -2", "along 2 1 = -2");
    for (int ship : new int[] {-1, 0, 1, 2, 3}) {
      runs.eachIs("move " + ship + " 1 1 = -1", "swap " + ship + " 0 = -1", "swap 0 " + ship + " = -1");
    }
  }

  private static void staysOfShipsThatHaveOne(Runs runs) {
    runs.eachIs("put 0 0 0 1 = -1", "put 2 90 9 1 = -1", "itself 0 = -1", "itself 2 = -1");
    runs.bounds("away *", 0, 2, 0);
    runs.bounds("move * 1 0", 0, 2);
    runs.bounds("move * 0 1", 0, 2);
    runs.bounds("swap * 1", 0, 2);
    runs.bounds("swap 1 *", 0, 2);
    runs.eachIs("swap 0 0 = -1", "swap 1 1 = -1", "swap 2 2 = -1", "swap -1 -1 = -1", "swap 3 3 = -1", "swap max min = -1");
    runs.bounds("slack *", 0, 2);
    runs.bounds("along * 0", 0, 2);
    runs.bounds("along * 1", 0, 2);
    runs.bounds("along 2 *", 0, 1);
  }

  private static void staysLookedAt(Runs runs) {
    runs.bounds("breaks * 0 0 1", 0, 2);
    runs.bounds("inWay * 0 0 1", 0, 2);
    runs.bounds("earliest * 1 0", 0, 2);
    runs.bounds("earliest 0 * 0", 1, 8);
    runs.bounds("earliest 0 1 *", 0, 2);
    runs.bounds("earliest 0 8 *", 0, 2);
    runs.bounds("places * 0 1 -1", 0, 2);
    runs.bounds("places * 0 1 0", 0, 2);
    runs.bounds("places 0 0 1 *", -1, MAX);
    // other ints than those are no reason for NONE: a LAW is broken by them
    runs.eachIs("breaks 0 min 0 1 = 1", "breaks 0 max 0 1 = 1", "breaks 0 0 min 1 = 2", "breaks 0 0 max 1 = 4",
        "breaks 0 0 0 min = 3", "breaks 0 0 0 max = 3", "breaks 0 min min min = 1", "breaks 0 max max max = 1",
        "breaks 0 0 min max = 2", "breaks 0 0 max max = 3", "breaks 0 0 max min = 3");
    runs.eachIs("inWay 0 min 0 1 = 0", "inWay 0 max 0 1 = 0", "inWay 0 0 min 1 = 0", "inWay 0 0 max 1 = 0",
        "inWay 0 0 0 min = 0", "inWay 0 0 0 max = 0", "inWay 0 max max max = 0", "inWay 0 min min min = 0");
    runs.eachIs("places 0 min 1 -1 = 0", "places 0 max 1 -1 = 0", "places 0 0 min -1 = 0", "places 0 0 max -1 = 0",
        "places 0 min min 0 = -2", "places 0 max max max = -2", "places 0 0 1 max = -2");
  }

  private static void all() {
    Runs none = new Runs(CHECK, HARBOUR);
    none.bounds("order * 0", 0, 3);
    none.bounds("order 3 *", 0, MAX);
    none.bounds("all *", 0, 3);
    none.bounds("best *", 0, 5);
    none.eachIs("order 0 2 = 2", "order 0 3 = -2", "order 0 max = -2", "best 4 = 2", "best 5 = -2");
    Runs all = new Runs(CHECK, HARBOUR, ALL_LIE);
    all.bounds("order * 0", 0, 3);
    all.bounds("order 0 *", 0, MAX);
    all.bounds("all *", 0, 3);
    all.eachIs("all 0 = -2", "all 3 = -2", "four = -1");
    for (String what : new String[] {"min", "-1", "0", "1", "2", "5", "6", "max"}) all.eachIs("best " + what + " = -1");
  }

  private static void whoLies(Runs runs) {
    runs.bounds("at * 0", 0, 335);
    runs.bounds("at 0 *", 0, 119);
    runs.bounds("lies * -1", 0, 335);
    runs.bounds("lies * 0", 0, 335);
    runs.bounds("lies 0 *", -1, MAX);
    runs.eachIs("lies 0 max = -2", "lies 335 -1 = 0", "lies 335 0 = -2");
    runs.bounds("free * 0", 0, 335);
    runs.bounds("free * 1", 0, 335);
    runs.bounds("free 0 *", 0, 1);
    runs.bounds("works * 0", 0, 1);
    runs.bounds("works 0 *", 0, 335);
    runs.bounds("hours *", 0, 1);
    runs.bounds("left * 0", 0, 2);
    runs.bounds("left * 335", 0, 2);
    runs.bounds("left 0 *", 0, 335);
    runs.bounds("shift * 0 0", 0, 6);
    runs.bounds("shift 0 * 3", 0, 2);
    runs.bounds("shift 6 2 *", 0, 3);
    runs.bounds("busiest *", 0, 1);
    runs.bounds("without *", 0, 1);
    runs.bounds("used *", 0, 6);
  }

  private static void ranksAndLeaving(Runs runs) {
    runs.bounds("rank * 0", 0, 3);
    runs.bounds("rank * 4", 0, 3);
    runs.bounds("rank 0 *", 0, 4);
    runs.bounds("rank 3 *", 0, 4);
    runs.bounds("leaver *", 0, MAX);
    runs.eachIs("leaver 3 = -2", "leaver max = -2");
    runs.bounds("meet * 1", 0, 2);
    runs.bounds("meet 1 *", 0, 2);
    runs.eachIs("meet 0 0 = -1", "meet 1 1 = -1", "meet 2 2 = -1", "meet -1 -1 = -1", "meet 3 3 = -1", "meet max min = -1");
  }

  private static void written() {
    new Runs(CHECK, HARBOUR).eachIs("octet 0 = -1", "octet -1 = -1", "octet min = -1", "octet max = -1");
    new Runs(CHECK, HARBOUR, ALL_LIE).eachIs("octet 0 = -1", "octet -1 = -1", "octet min = -1", "octet max = -1");
    // a 0 0 1;bb 30 0 1;c 70 2 1;
    Runs runs = new Runs(CHECK, HARBOUR, "put 0 0 0 1 = 2", "put 1 30 0 1 = 2", "put 2 70 2 1 = 3", "write = 27");
    runs.bounds("octet *", 0, 26);
    runs.eachIs("octet 0 = 97", "octet 1 = 32", "octet 7 = 59", "octet 26 = 59", "octet 27 = -1");
  }

  private static void marks() {
    Runs none = new Runs(CHECK, HARBOUR);
    none.bounds("mark *", 0, 3);
    for (String mark : new String[] {"min", "-1", "0", "1", "2", "3", "4", "max"}) {
      none.eachIs("differs " + mark + " = -1", "back " + mark + " = -1");
    }
    Runs all = new Runs(CHECK, HARBOUR, "put 0 0 0 1 = 2", "mark 0 = 1", "mark 1 = 1", "mark 2 = 1", "mark 3 = 1");
    all.bounds("mark *", 0, 3);
    all.bounds("differs *", 0, 3);
    all.bounds("back *", 0, 3);
    for (int made = 0; made < 4; made++) {
      Runs one = new Runs(CHECK, HARBOUR, "mark " + made + " = 0");
      one.bounds("differs *", made, made);
      one.bounds("back *", made, made);
      one.eachIs("count 12 = 1", "differs " + made + " = 0", "back " + made + " = 0");
    }
  }

  /** Fourteen ships and eight cranes: the greatest numbers that there are. */
  private static void aFullHarbour() {
    StringBuilder text = new StringBuilder("quay 280;");
    for (int i = 0; i < 8; i++) text.append("crane 0 279;");
    for (int i = 0; i < 14; i++) text.append("ship ").append((char) ('a' + i)).append(" 20 0 0 12 0 0 3 1 8;");
    Runs runs = new Runs(CHECK, text.toString(), "put 13 260 1 1 = 2", "put 0 0 1 1 = 2", "put 12 240 1 1 = 2");
    runs.bounds("crane * 0", 0, 7);
    runs.bounds("works * 1", 0, 7);
    runs.bounds("hours *", 0, 7);
    runs.bounds("without *", 0, 7);
    for (String call : new String[] {"ship * 8", "ship * 9", "letter * 7", "breaks * 0 0 1", "inWay * 0 0 1", "earliest * 8 2",
      "places * 0 1 0", "slack *", "along * 1", "left * 1"}) {
      runs.bounds(call, 0, 13);
    }
    runs.bounds("put * 20 0 1", 1, 11);
    runs.bounds("itself *", 1, 11);
    runs.eachIs("put 14 0 0 1 = -1", "itself 14 = -1", "away 14 = 0", "move 14 1 1 = -1", "swap 0 14 = -1", "swap 14 13 = -1");
    runs.bounds("meet 0 *", 1, 13);
    runs.bounds("swap 0 *", 12, 13);
    runs.eachIs("order 0 13 = 13", "order 0 14 = -2", "lies 1 -1 = 3", "lies 1 0 = 0", "lies 1 1 = 12", "lies 1 2 = 13",
        "lies 1 3 = -2", "leaver 2 = 13", "leaver 3 = -2", "at 1 279 = 13", "at 1 280 = -1", "away 13 = 1");
    runs.are("mark 0 = 3", "all 0 = 11", "count 10 = 14", "differs 0 = 4094", "leaver 13 = 11", "leaver 14 = -2", "away 13 = 1",
        "away 0 = 1", "differs 0 = 12287");
  }

  /** Without ships and cranes there are no such ones at all. */
  private static void anEmptyHarbour() {
    Runs runs = new Runs(CHECK, "quay 50;");
    for (String ship : new String[] {"min", "-1", "0", "1", "13", "max"}) {
      runs.eachIs("crane " + ship + " 0 = -1", "works " + ship + " 0 = -1", "hours " + ship + " = -1", "without " + ship + " = -1",
          "ship " + ship + " 0 = -1", "ship " + ship + " 9 = -1", "letter " + ship + " 0 = -1", "breaks " + ship + " 0 0 1 = -1",
          "inWay " + ship + " 0 0 1 = -1", "earliest " + ship + " 1 0 = -1", "put " + ship + " 0 0 1 = -1",
          "itself " + ship + " = -1", "away " + ship + " = 0", "move " + ship + " 1 1 = -1", "swap " + ship + " 1 = -1",
          "swap 1 " + ship + " = -1", "places " + ship + " 0 1 -1 = -1", "slack " + ship + " = -1", "along " + ship + " 0 = -1",
          "left " + ship + " 0 = -1", "meet " + ship + " 1 = -1", "meet 1 " + ship + " = -1");
    }
    runs.eachIs("order 0 0 = -2", "order 3 max = -2", "order 0 -1 = -1", "leaver 0 = -2", "hopeless = 0", "squeeze = -1",
        "four = -1", "all 0 = -2", "best 0 = -1", "best 2 = -1", "lies 0 -1 = 0", "lies 0 0 = -2", "free 0 0 = 50",
        "free 0 1 = 0", "count 9 = 0", "count 10 = 0", "mark 0 = 0", "write = 0", "undo = -1");
  }

  private static void theShortestAndTheLongestQuay() {
    for (int quay : new int[] {50, 999}) {
      Runs runs = new Runs(CHECK, "quay " + quay + ";crane 0 999;ship a 50 0 0 0 0 0 0 1 1;");
      runs.bounds("depth *", 0, quay - 1);
      runs.bounds("shallow 0 *", 0, quay - 1);
      runs.bounds("at 0 *", 0, quay - 1);
      runs.eachIs("free 0 0 = " + quay, "breaks 0 " + (quay - 50) + " 0 1 = 0", "breaks 0 " + (quay - 49) + " 0 1 = 1",
          "breaks 0 0 0 1 = 0", "breaks 0 -1 0 1 = 1");
    }
  }
}
