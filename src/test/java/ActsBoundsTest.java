/** The bounds that promises 18 to 53 name beside those of their ints: nobody, all, none left, just so many, the first of like ones. */
public final class ActsBoundsTest {
  private static final Check CHECK = new Check();
  private static final String CRANES = "crane 0 299;crane 0 299;crane 0 299;";

  public static void main(String[] args) {
    inWayOfLawsOneToFive();
    ownStayIsNotCounted();
    earliestWithOtherCranes();
    putIntoTheBounds();
    moveToTheEnds();
    moveBeyondTheEnds();
    swapLaws();
    swapNeitherLyingWhereItWas();
    squeezeToTheLeast();
    squeezeNotLater();
    placesOfATen();
    hopelessWithoutStays();
    slackOverOthers();
    alongUpToTheNext();
    orderOfLikeOnes();
    allAndNone();
    bestOfFewAndMany();
    fourOfFewAndMany();
    freeRows();
    shiftEnds();
    busiestOfLikeOnes();
    withoutEachCrane();
    usedCut();
    ranksOfMany();
    leaversOfLikeOnes();
    writtenNumbers();
    twelveActsAreKept();
    noActsBehindBack();
    marksNeverMade();
    differencesOfOneShip();
    fullHarbour();
    CHECK.end();
  }

  private static Runs runs(String text, String... ahead) {
    return new Runs(CHECK, text, ahead);
  }

  private static String ship(char name, String numbers) {
    return "ship " + name + " " + numbers + ";";
  }

  private static String likeShips(int n, String numbers) {
    StringBuilder all = new StringBuilder();
    for (int i = 0; i < n; i++) all.append(ship((char) ('a' + i), numbers));
    return all.toString();
  }

  /** "0: also if it breaks LAW 1, 2, 3, 4 or 5" */
  private static void inWayOfLawsOneToFive() {
    // a lies at 40 to 79 in slots 0 to 9
    Runs runs = runs("quay 120;section 0 100;channel 130;gangs 0 0 1;crane 0 30;crane 35 45;" + ship('a', "40 0 0 120 0 0 0 1 1")
        + ship('b', "40 101 0 24 4 0 0 2 3") + ship('c', "40 131 0 0 0 0 0 1 1") + ship('d', "40 0 131 0 0 0 0 1 1")
        + ship('e', "40 130 130 0 0 0 0 1 1"), "put 0 40 0 1 = 10");
    // b breaks LAWS 6, 8 and 9, too
    runs.are("inWay 1 60 5 2 = 1", "breaks 1 60 5 2 = 6", "inWay 1 79 5 2 = 1", "inWay 1 80 5 2 = 0", "inWay 1 81 5 2 = 0",
        "inWay 1 1 5 2 = 1", "inWay 1 0 5 2 = 0", "inWay 1 -1 5 2 = 0", "inWay 1 60 4 2 = 1", "inWay 1 60 3 2 = 0",
        "inWay 1 60 9 2 = 1", "inWay 1 60 10 2 = 0", "inWay 1 60 5 1 = 0", "inWay 1 60 5 3 = 1", "inWay 1 60 5 4 = 0");
    runs.are("breaks 2 60 5 1 = 4", "inWay 2 60 5 1 = 0", "breaks 3 60 5 1 = 5", "inWay 3 60 5 1 = 0", "breaks 4 60 5 1 = 6",
        "inWay 4 60 5 1 = 1");
    // up to the last slot: a lies in 334, b could not leave any more
    runs(CRANES + likeShips(2, "10 0 0 12 0 0 0 1 1"), "put 0 0 334 1 = 335").are("inWay 1 0 334 1 = 1", "inWay 1 0 335 1 = 0",
        "inWay 1 0 333 1 = 0", "inWay 1 0 336 1 = 0");
    // eight ships side by side in the way of one as long as all of them, of those beyond it, and of one another
    String[] rows = new String[8];
    for (int i = 0; i < 8; i++) rows[i] = "put " + i + " " + 10 * i + " 0 1 = 1";
    runs("crane 0 299;".repeat(8) + likeShips(13, "10 0 0 0 0 0 0 1 1") + ship('n', "80 0 0 0 0 0 0 1 1"), rows).are(
        "inWay 13 0 0 1 = 255", "inWay 13 79 0 1 = 128", "inWay 13 80 0 1 = 0", "inWay 12 0 0 1 = 1", "inWay 12 1 0 1 = 3",
        "inWay 0 75 0 1 = 128", "inWay 7 1 0 1 = 3");
  }

  /** "its own one, if it has one, is not counted" */
  private static void ownStayIsNotCounted() {
    Runs runs = runs("crane 0 299;" + likeShips(2, "10 0 0 24 0 0 0 1 1"), "put 0 0 0 1 = 2");
    runs.are("breaks 0 0 0 1 = 0", "breaks 0 5 1 1 = 0", "inWay 0 5 1 1 = 0", "earliest 0 1 0 = 0", "earliest 0 1 1 = 0",
        "places 0 1 1 -1 = 30", "breaks 1 5 1 1 = 7", "breaks 1 20 1 1 = 8", "inWay 1 5 1 1 = 1", "earliest 1 1 0 = 2",
        "places 1 1 1 -1 = 0", "ship 0 9 = 0", "ship 0 10 = 0", "count 15 = 2");
  }

  /** "-2: there is none; NONE: no such ones (k 1 to 8)" */
  private static void earliestWithOtherCranes() {
    Runs runs = runs(CRANES + ship('a', "10 0 0 24 0 0 0 2 3"));
    runs.are("earliest 0 0 0 = -1", "earliest 0 1 0 = -2", "earliest 0 2 0 = 0", "earliest 0 3 0 = 0", "earliest 0 4 0 = -2",
        "earliest 0 8 0 = -2", "earliest 0 9 0 = -1", "earliest 0 1 1 = -2", "earliest 0 1 2 = -2", "earliest 0 1 3 = -1");
  }

  private static void putIntoTheBounds() {
    Runs runs = runs(CRANES + ship('a', "100 0 0 24 3 0 0 1 3"));
    for (String row : new String[] {"put 0 0 3 1 = 5", "put 0 200 3 1 = 5", "put 0 0 333 1 = 335", "put 0 200 334 3 = 335"}) {
      String[] numbers = row.split(" ");
      runs.are(row, "ship 0 9 = " + numbers[2], "ship 0 10 = " + numbers[3], "ship 0 11 = " + numbers[4], "count 10 = 1",
          "count 11 = 1");
    }
    runs.eachIs("put 0 -1 3 1 = -2", "put 0 201 3 1 = -2", "put 0 0 2 1 = -3", "put 0 0 3 0 = -4", "put 0 0 3 4 = -4",
        "put 0 0 334 1 = -6", "put 0 0 336 1 = -5", "put 0 min 3 1 = -2", "put 0 max 3 1 = -2", "put 0 0 min 1 = -3",
        "put 0 0 max 1 = -5", "put 0 0 3 min = -4", "put 0 0 3 max = -4");
  }

  private static void moveToTheEnds() {
    // 100 metres from 50 on, slots 20 and 21
    Runs runs = runs(CRANES + ship('a', "100 0 0 24 3 0 0 1 3"), "put 0 50 20 1 = 22");
    runs.eachIs("move 0 0 0 = -1", "move 0 -50 0 = 22", "move 0 -51 0 = -2", "move 0 150 0 = 22", "move 0 151 0 = -2",
        "move 0 0 -17 = 5", "move 0 0 -18 = -3", "move 0 0 313 = 335", "move 0 0 314 = -6", "move 0 0 315 = -6",
        "move 0 0 316 = -5", "move 0 150 313 = 335", "move 0 -50 -17 = 5", "move 0 1 0 = 22", "move 0 0 1 = 23",
        "move 0 -1 0 = 22", "move 0 0 -1 = 21");
    runs.are("move 0 -50 -17 = 5", "ship 0 9 = 0", "ship 0 10 = 3", "ship 0 11 = 1", "move 0 200 330 = 335", "ship 0 9 = 200",
        "ship 0 10 = 333", "count 11 = 3");
  }

  private static void moveBeyondTheEnds() {
    Runs runs = runs(CRANES + ship('a', "100 0 0 24 3 0 0 1 3"), "put 0 50 20 1 = 22");
    runs.eachIs("move 0 max 0 = -2", "move 0 min 0 = -2", "move 0 max max = -2", "move 0 min min = -2", "move 0 0 max = -5",
        "move 0 0 min = -3", "move 0 1 max = -5", "move 0 -1 min = -3", "move 0 2147483597 0 = -2", "move 0 2147483598 0 = -2",
        "move 0 0 2147483627 = -5", "move 0 0 2147483628 = -5", "move 0 0 1000000 = -5", "move 0 0 -1000000 = -3");
  }

  /** "-2 to -10: LAW 1 to 9 is broken first (by the first one, else by the second one)" */
  private static void swapLaws() {
    // 1: the second one is too long for the first one's place
    Runs one = runs("quay 100;" + CRANES + ship('a', "40 0 0 12 0 0 0 1 1") + ship('b', "60 0 0 12 0 0 0 1 1"), "put 0 60 0 1 = 1",
        "put 1 0 0 1 = 1");
    one.eachIs("swap 0 1 = -2", "swap 1 0 = -2");
    // 2: b is not there before slot 5
    Runs two = runs(CRANES + ship('a', "10 0 0 12 0 0 0 1 1") + ship('b', "10 0 0 12 5 0 0 1 1"), "put 0 0 4 1 = 5", "put 1 50 6 1 = 7");
    two.eachIs("swap 0 1 = -3", "swap 1 0 = -3");
    // 4: b comes with the tide of slots 10 and 11 alone; 5: it leaves with it
    String tide = "section 0 200;tide 9 0;tide 10 1;tide 11 1;tide 12 0;";
    Runs four = runs(tide + CRANES + ship('a', "10 0 0 12 0 0 0 1 1") + ship('b', "10 101 0 12 0 0 0 1 1"), "put 0 0 4 1 = 5",
        "put 1 50 10 1 = 11");
    four.eachIs("swap 0 1 = -5", "swap 1 0 = -5");
    Runs five = runs(tide + CRANES + ship('a', "10 0 0 12 0 0 0 1 1") + ship('b', "10 0 101 12 0 0 0 1 1"), "put 0 0 11 1 = 12",
        "put 1 50 10 1 = 11");
    five.eachIs("swap 0 1 = -6", "swap 1 0 = -6");
    // 6: b needs the depth that is there from metre 50 on
    Runs six = runs("channel 300;section 50 110;" + CRANES + ship('a', "10 0 0 12 0 0 0 1 1") + ship('b', "10 0 101 12 0 0 0 1 1"),
        "put 0 0 11 1 = 12", "put 1 50 10 1 = 11");
    six.eachIs("swap 0 1 = -7", "swap 1 0 = -7");
    // 7: c, or the first one by now, lies there
    Runs seven = runs(CRANES + ship('a', "10 0 0 12 0 0 0 1 1") + ship('b', "20 0 0 12 0 0 0 1 1") + ship('c', "10 0 0 12 0 0 0 1 1"),
        "put 0 0 4 1 = 5", "put 1 50 4 1 = 5", "put 2 19 4 1 = 5");
    seven.eachIs("swap 0 1 = -8", "swap 1 0 = -8", "swap 0 2 = 5", "swap 2 0 = 5", "swap 2 1 = 5");
    // 8: b with two cranes finds one gang in shift 1
    Runs eight = runs("gangs 0 1 1;" + CRANES + ship('a', "10 0 0 12 0 0 0 1 1") + ship('b', "10 0 0 12 0 0 0 2 2"), "put 0 0 16 1 = 17",
        "put 1 50 15 2 = 16");
    eight.eachIs("swap 0 1 = -9", "swap 1 0 = -9");
    // 9: one crane alone reaches a's place
    Runs nine = runs("crane 0 299;crane 50 299;" + ship('a', "10 0 0 12 0 0 0 1 1") + ship('b', "10 0 0 12 0 0 0 2 2"), "put 0 0 4 1 = 5",
        "put 1 50 5 2 = 6");
    nine.eachIs("swap 0 1 = -10", "swap 1 0 = -10");
    // by the first one, else by the second one: a breaks LAW 2, b LAW 1
    Runs both = runs("quay 100;" + CRANES + ship('a', "50 0 0 12 5 0 0 1 1") + ship('b', "60 0 0 12 0 0 0 1 1"), "put 0 50 5 1 = 6",
        "put 1 40 4 1 = 5");
    both.eachIs("swap 0 1 = -3", "swap 1 0 = -2");
  }

  /** "the first one is put, then the second one, neither lying where it was" */
  private static void swapNeitherLyingWhereItWas() {
    // they lie across each other's places: a at 0 to 29, b at 30 to 49, b at 0, a at 30
    runs(CRANES + ship('a', "30 0 0 12 0 0 0 1 1") + ship('b', "20 0 0 24 0 0 0 1 2"), "put 0 0 4 1 = 5", "put 1 30 4 1 = 6").are(
        "swap 0 1 = 5", "ship 0 9 = 30", "ship 1 9 = 0", "ship 0 10 = 4", "swap 0 1 = 5", "ship 0 9 = 0", "ship 1 9 = 30",
        "swap 1 0 = 6", "ship 1 9 = 0", "ship 1 11 = 1", "count 11 = 5");
    // at one metre one behind the other: each comes when the other came
    runs("crane 0 299;" + ship('a', "10 0 0 12 0 0 0 1 1") + ship('b', "10 0 0 12 0 0 0 1 1"), "put 0 0 4 1 = 5", "put 1 0 5 1 = 6").are(
        "swap 0 1 = 6", "ship 0 10 = 5", "ship 1 10 = 4");
    // a works two slots: at b's slot it fits, b then ahead of it
    runs("crane 0 299;" + ship('a', "10 0 0 24 0 0 0 1 1") + ship('b', "10 0 0 12 0 0 0 1 1"), "put 0 0 4 1 = 6", "put 1 0 6 1 = 7").are(
        "swap 0 1 = 8", "ship 0 10 = 6", "ship 1 10 = 4", "swap 0 1 = 6", "away 1 = 1", "put 1 0 3 1 = 4", "swap 0 1 = -8",
        "swap 1 0 = -8", "ship 0 10 = 4", "ship 1 10 = 3");
  }

  /** "each lies from the least t on ... how many lie earlier; NONE: none" */
  private static void squeezeToTheLeast() {
    String ships = likeShips(2, "10 0 0 24 5 0 0 1 1");
    runs("crane 0 299;" + ships).are("squeeze = -1", "count 11 = 0", "put 0 0 5 1 = 7", "squeeze = -1", "put 1 0 7 1 = 9",
        "squeeze = -1", "count 11 = 2");
    runs("crane 0 299;" + ships, "put 0 0 6 1 = 8").are("squeeze = 1", "ship 0 10 = 5", "ship 0 9 = 0", "ship 0 13 = 7", "squeeze = -1",
        "count 11 = 2");
    runs("crane 0 299;" + ships, "put 0 3 6 1 = 8", "put 1 3 8 1 = 10").are("squeeze = 2", "ship 0 10 = 5", "ship 1 10 = 7", "ship 1 9 = 3",
        "undo = 2", "ship 0 10 = 6", "ship 1 10 = 8");
    runs("crane 0 299;" + ships, "put 0 3 5 1 = 7", "put 1 3 8 1 = 10").are("squeeze = 1", "ship 0 10 = 5", "ship 1 10 = 7");
    runs("crane 0 299;" + ships, "put 0 3 333 1 = 335").are("squeeze = 1", "ship 0 10 = 5");
  }

  /** "by t as it was, of like ones by number"; "not later than its own" */
  private static void squeezeNotLater() {
    // one gang: b (from slot 10 on) goes first and takes slots 0 and 1, then a (from slot 12 on)
    runs("gangs 0 0 1;" + CRANES + likeShips(2, "10 0 0 24 0 0 0 1 1"), "put 0 0 12 1 = 14", "put 1 50 10 1 = 12").are("squeeze = 2",
        "ship 1 10 = 0", "ship 0 10 = 2");
    // like ones: a goes first, though b was put first
    runs(CRANES + "gangs 0 0 1;" + likeShips(2, "10 0 0 24 0 0 0 1 1"), "put 1 50 20 1 = 22", "put 0 0 20 1 = 22").are("squeeze = 2",
        "ship 0 10 = 0", "ship 1 10 = 2");
    // "all else as it is then": b follows when a lies earlier, but not ahead of its slot 2
    runs("crane 0 299;" + ship('a', "10 0 0 24 0 0 0 1 1") + ship('b', "10 0 0 24 2 0 0 1 1"), "put 0 0 1 1 = 3", "put 1 0 3 1 = 5").are(
        "squeeze = 2", "ship 0 10 = 0", "ship 1 10 = 2", "squeeze = -1");
  }

  /** "i NONE: how many; else the i-th (-2: not so many)" */
  private static void placesOfATen() {
    Runs runs = runs(CRANES + ship('a', "280 0 0 12 0 0 0 1 1") + ship('b', "281 0 0 12 0 0 0 1 1") + ship('c', "300 0 0 12 0 0 0 1 1")
        + ship('d', "301 0 0 12 0 0 0 1 1"));
    runs.are("places 0 0 1 -1 = 3", "places 0 0 1 0 = 0", "places 0 0 1 2 = 20", "places 0 0 1 3 = -2", "places 0 0 1 -2 = -1",
        "places 1 0 1 -1 = 2", "places 1 0 1 1 = 10", "places 1 0 1 2 = -2", "places 2 0 1 -1 = 1", "places 2 0 1 0 = 0",
        "places 2 0 1 1 = -2", "places 3 0 1 -1 = 0", "places 3 0 1 0 = -2", "places 0 334 1 -1 = 3", "places 0 335 1 -1 = 0",
        "places 0 336 1 -1 = 0", "places 0 -1 1 -1 = 0", "places 0 0 0 -1 = 0", "places 0 0 2 -1 = 0", "places 0 0 2 0 = -2");
  }

  /** "if no SHIP had a STAY" */
  private static void hopelessWithoutStays() {
    StringBuilder ships = new StringBuilder();
    for (int i = 0; i < 14; i++) ships.append(ship((char) ('a' + i), (i % 2 == 0 ? "300" : "301") + " 0 0 12 0 0 0 1 1"));
    runs("crane 0 299;" + ships).are("hopeless = 10922");
    runs(likeShips(14, "10 0 0 12 0 0 0 1 1")).are("hopeless = 16383");
    runs("crane 0 299;" + likeShips(14, "10 0 0 12 0 0 0 1 1")).are("hopeless = 0");
    // a takes all slots, b has none left, but is not hopeless
    runs("crane 0 299;" + likeShips(2, "10 0 0 4020 0 0 0 1 1"), "put 0 0 0 1 = 335").are("itself 1 = -2", "hopeless = 0", "ship 0 10 = 0",
        "count 15 = 335", "count 10 = 1", "count 11 = 1");
  }

  /** "the greatest such number for which no LAW is broken" */
  private static void slackOverOthers() {
    String ships = likeShips(2, "10 0 0 24 0 0 0 1 1");
    runs("crane 0 299;" + ships, "put 0 0 0 1 = 2").are("slack 0 = 333", "move 0 0 333 = 335", "slack 0 = 0");
    runs("crane 0 299;" + ships, "put 0 0 0 1 = 2", "put 1 0 2 1 = 4").are("slack 0 = 333", "slack 1 = 331");
    // b works in slots 333 and 334: a could begin in 331 at the latest
    runs("crane 0 299;" + ships, "put 0 0 0 1 = 2", "put 1 0 333 1 = 335").are("slack 0 = 331", "slack 1 = 0", "move 0 0 331 = 333",
        "slack 0 = 0");
    // the tide of slot 10 is the last: it has to leave in it
    runs("section 0 200;tide 10 1;tide 11 0;crane 0 299;" + ship('a', "10 0 101 24 0 0 0 1 1"), "put 0 0 0 1 = 2").are("slack 0 = 8",
        "move 0 0 8 = 10", "slack 0 = 0");
  }

  /** "metre by metre from its own on no LAW being broken" */
  private static void alongUpToTheNext() {
    String ships = likeShips(3, "10 0 0 24 0 0 0 1 1");
    runs(CRANES + ships, "put 0 100 0 1 = 2").are("along 0 0 = 0", "along 0 1 = 290", "move 0 -100 0 = 2", "along 0 0 = 0",
        "along 0 1 = 290", "move 0 290 0 = 2", "along 0 0 = 0", "along 0 1 = 290");
    // others on both sides, with room behind them
    runs("gap 2;" + CRANES + ships, "put 0 100 0 1 = 2", "put 1 50 1 1 = 3", "put 2 150 1 1 = 3").are("along 0 0 = 62", "along 0 1 = 138",
        "along 1 0 = 0", "along 1 1 = 88", "along 2 0 = 112", "along 2 1 = 290");
    // touching: it can't move at all
    runs(CRANES + ships, "put 0 100 0 1 = 2", "put 1 90 1 1 = 3", "put 2 110 1 1 = 3").are("along 0 0 = 100", "along 0 1 = 100");
    // nobody in its slots
    runs(CRANES + ships, "put 0 100 0 1 = 2", "put 1 90 2 1 = 4", "put 2 110 2 1 = 4").are("along 0 0 = 0", "along 0 1 = 290");
    // too shallow from 150 on, no crane ahead of 60; a last metre of 149, a last metre of 60 at the least
    runs("section 150 99;crane 60 299;" + ship('a', "10 100 0 24 0 0 0 1 1"), "put 0 100 0 1 = 2").are("along 0 0 = 51", "along 0 1 = 140");
    runs("quay 50;crane 0 49;" + ship('a', "50 0 0 24 0 0 0 1 1"), "put 0 0 0 1 = 2").are("along 0 0 = 0", "along 0 1 = 0");
  }

  /** "then number" */
  private static void orderOfLikeOnes() {
    Runs like = runs(likeShips(14, "10 0 0 0 7 9 2 1 1"));
    for (int rule = 0; rule < 4; rule++) {
      String[] rows = new String[15];
      for (int i = 0; i < 14; i++) rows[i] = "order " + rule + " " + i + " = " + i;
      rows[14] = "order " + rule + " 14 = -2";
      like.are(rows);
    }
    // rule 0: the rank, then the slot; 1: the slot, then the rank; 2: due alone; 3: the longest first
    Runs two = runs(ship('a', "400 0 0 0 335 999 0 1 1") + ship('b', "1 0 0 0 0 0 3 1 1") + ship('c', "399 0 0 0 335 998 1 1 1")
        + ship('d', "2 0 0 0 1 1 3 1 1") + ship('e', "400 0 0 0 0 999 2 1 1"));
    two.are("order 0 0 = 0", "order 0 1 = 2", "order 0 2 = 4", "order 0 3 = 1", "order 0 4 = 3", "order 0 5 = -2");
    two.are("order 1 0 = 4", "order 1 1 = 1", "order 1 2 = 3", "order 1 3 = 0", "order 1 4 = 2", "order 1 5 = -2");
    two.are("order 2 0 = 1", "order 2 1 = 3", "order 2 2 = 2", "order 2 3 = 0", "order 2 4 = 4", "order 2 5 = -2");
    two.are("order 3 0 = 0", "order 3 1 = 4", "order 3 2 = 2", "order 3 3 = 3", "order 3 4 = 1", "order 3 5 = -2");
  }

  /** "how many were put (0, too, is an ACT); NONE: no such RULE; -2: there is no such SHIP" */
  private static void allAndNone() {
    runs(likeShips(2, "10 0 0 0 0 0 0 1 1")).are("all 0 = 0", "count 11 = 1", "all 3 = 0", "count 11 = 2", "undo = 1", "undo = 0",
        "undo = -1");
    runs(CRANES).are("all 0 = -2", "all 3 = -2", "all 4 = -1", "all -1 = -1", "count 11 = 0");
    runs(CRANES + likeShips(2, "10 0 0 0 0 0 0 1 1"), "put 1 0 0 1 = 1").are("all 0 = 1", "all 0 = -2", "all 4 = -1", "count 11 = 2",
        "undo = 1", "count 10 = 1", "ship 1 9 = 0", "all 1 = 1");
    runs("crane 0 299;".repeat(8) + likeShips(14, "10 0 0 0 0 0 0 1 1")).are("all 2 = 14", "count 10 = 14", "count 11 = 1",
        "ship 7 10 = 0", "ship 8 10 = 1", "ship 13 9 = 50", "undo = 0", "count 10 = 0");
    // thirteen acts that put nobody: twelve are kept
    String[] rows = new String[14];
    for (int i = 0; i < 13; i++) rows[i] = "all 0 = 0";
    rows[13] = "count 11 = 12";
    runs(ship('a', "10 0 0 0 0 0 0 1 1")).are(rows);
  }

  /** "1 the first, to 4; -2: not so many"; "fewer, if there are not so many" */
  private static void bestOfFewAndMany() {
    for (int ships = 0; ships <= 6; ships++) {
      Runs runs = runs("crane 0 299;" + likeShips(ships, "10 0 0 12 0 0 3 1 1"));
      int four = Math.min(4, ships);
      runs.are("best 0 = " + (ships == 0 ? -1 : 0), "best 1 = " + (ships == 0 ? -1 : four * (four + 1) / 2), "best -1 = -1", "best 6 = -1");
      for (int i = 0; i < 4; i++) runs.are("best " + (i + 2) + " = " + (ships == 0 ? -1 : i < ships ? i : -2));
      Runs hopeless = runs(likeShips(ships, "10 0 0 12 0 0 3 1 1"));
      hopeless.are("best 0 = " + (ships == 0 ? -1 : four), "best 1 = " + (ships == 0 ? -1 : 0), "four = -1", "count 11 = 0");
    }
    // the first four without a stay: b, d, e, f of a to g
    runs("crane 0 299;" + likeShips(7, "10 0 0 12 0 0 3 1 1"), "put 0 0 10 1 = 11", "put 2 0 11 1 = 12").are("best 2 = 1", "best 3 = 3",
        "best 4 = 4", "best 5 = 5", "best 6 = -1", "four = 4", "ship 6 9 = -2", "ship 5 10 = 3", "best 2 = 6", "best 3 = -2", "four = 1",
        "best 2 = -1", "four = -1");
  }

  /** "how many; NONE: there is no such SHIP, or none of them can be put" */
  private static void fourOfFewAndMany() {
    for (int ships = 0; ships <= 6; ships++) {
      Runs runs = runs("crane 0 299;" + likeShips(ships, "10 0 0 12 0 0 3 1 1"));
      int four = Math.min(4, ships);
      runs.are("four = " + (ships == 0 ? -1 : four), "count 10 = " + four, "count 11 = " + (ships == 0 ? 0 : 1),
          "undo = " + (ships == 0 ? -1 : 0), "count 10 = 0");
    }
    // the first four are too long, the fifth is not among them
    runs("crane 0 299;" + likeShips(4, "301 0 0 12 0 0 3 1 1") + ship('e', "10 0 0 12 0 0 3 1 1")).are("best 0 = 4", "best 1 = 0",
        "best 2 = 0", "best 5 = 3", "four = -1", "count 11 = 0", "itself 4 = 0");
    // one of four can be put
    runs("crane 0 299;" + likeShips(3, "301 0 0 12 0 0 3 1 1") + ship('d', "10 0 0 12 0 0 3 1 1")).are("best 0 = 3", "best 1 = 1",
        "best 2 = 0", "best 5 = 3", "four = 1", "ship 3 10 = 0", "count 11 = 1", "four = -1");
  }

  /** "The longest row of metres ... how many (what 0), its first (1; the first of like ones; -2: none)" */
  private static void freeRows() {
    String ships = "quay 100;" + CRANES + ship('a', "20 0 0 12 0 0 0 1 1") + ship('b', "40 0 0 12 0 0 0 1 1") + ship('c', "60 0 0 12 0 0 0 1 1")
        + ship('d', "100 0 0 12 0 0 0 1 1");
    runs(ships, "put 0 40 5 1 = 6").are("free 5 0 = 40", "free 5 1 = 0", "free 4 0 = 100", "free 6 0 = 100", "free 6 1 = 0");
    runs(ships, "put 0 39 5 1 = 6").are("free 5 0 = 41", "free 5 1 = 59");
    runs(ships, "put 0 41 5 1 = 6").are("free 5 0 = 41", "free 5 1 = 0");
    runs(ships, "put 0 0 5 1 = 6").are("free 5 0 = 80", "free 5 1 = 20");
    runs(ships, "put 0 80 5 1 = 6").are("free 5 0 = 80", "free 5 1 = 0");
    runs(ships, "put 3 0 5 1 = 6").are("free 5 0 = 0", "free 5 1 = -2");
    runs(ships, "put 1 60 5 1 = 6", "put 2 0 5 1 = 6").are("free 5 0 = 0", "free 5 1 = -2", "lies 5 -1 = 2", "lies 5 0 = 2", "lies 5 1 = 1",
        "lies 5 2 = -2");
    runs(ships, "put 1 59 5 1 = 6", "put 0 0 5 1 = 6").are("free 5 0 = 39", "free 5 1 = 20", "at 5 98 = 1", "at 5 99 = -2", "at 5 19 = 0",
        "at 5 20 = -2");
    // the last metre alone, the first one alone
    runs("quay 101;" + CRANES + ship('a', "100 0 0 12 0 0 0 1 1"), "put 0 0 5 1 = 6").are("free 5 0 = 1", "free 5 1 = 100");
    runs("quay 101;" + CRANES + ship('a', "100 0 0 12 0 0 0 1 1"), "put 0 1 5 1 = 6").are("free 5 0 = 1", "free 5 1 = 0");
  }

  private static void shiftEnds() {
    // 12 boxes a slot from slot 15 on: one slot in shift 0, 16 in shift 1, one in shift 2
    Runs runs = runs("gangs 0 1 9;gangs 0 2 1;" + CRANES + ship('a', "10 0 0 216 0 0 0 1 1") + ship('b', "10 0 0 36 0 0 0 2 3"),
        "put 0 0 15 1 = 33");
    runs.are("shift 0 0 0 = 12", "shift 0 0 1 = 1", "shift 0 0 2 = 1", "shift 0 0 3 = 47", "shift 0 1 0 = 192", "shift 0 1 1 = 1",
        "shift 0 1 2 = 16", "shift 0 1 3 = 128", "shift 0 2 0 = 12", "shift 0 2 2 = 1", "shift 0 2 3 = 15", "shift 1 0 0 = 0",
        "shift 1 0 1 = 0", "shift 1 0 2 = 0", "shift 1 0 3 = 48", "busiest 0 = 1", "busiest 1 = 192", "put 1 50 16 2 = 18",
        "shift 0 1 0 = 228", "shift 0 1 1 = 3", "shift 0 1 2 = 20", "shift 0 1 3 = 124");
    // all gangs at work in all slots of a shift
    runs("crane 0 299;" + ship('a', "10 0 0 576 0 0 0 1 1"), "put 0 0 32 1 = 80").are("shift 0 2 3 = 0", "shift 1 0 3 = 0", "shift 1 1 3 = 0",
        "shift 0 1 3 = 16", "shift 1 2 3 = 16", "shift 0 2 0 = 192", "busiest 0 = 2");
    runs("crane 0 299;gangs 3 0 0;" + ship('a', "10 0 0 12 0 0 0 1 1")).are("shift 3 0 3 = 0", "shift 3 1 3 = 16", "shift 6 2 3 = 16");
    // the last slot in which one can work
    runs("crane 0 299;" + ship('a', "10 0 0 12 0 0 0 1 1"), "put 0 0 334 1 = 335").are("shift 6 2 0 = 12", "shift 6 2 2 = 1", "busiest 0 = 20",
        "busiest 1 = 12", "works 0 334 = 0", "works 0 335 = -2", "works 0 333 = -2", "hours 0 = 1", "used 6 = 0", "at 334 0 = 0",
        "at 335 0 = -2");
  }

  /** "the first of like ones" */
  private static void busiestOfLikeOnes() {
    String ships = likeShips(2, "10 0 0 12 0 0 0 1 1");
    runs(CRANES + ships).are("busiest 0 = 0", "busiest 1 = 0");
    runs(CRANES + ships, "put 0 0 319 1 = 320", "put 1 0 320 1 = 321").are("busiest 0 = 19", "busiest 1 = 12");
    runs(CRANES + ships, "put 0 0 320 1 = 321", "put 1 0 16 1 = 17").are("busiest 0 = 1", "busiest 1 = 12");
    runs(CRANES + ships, "put 0 0 320 1 = 321", "put 1 0 321 1 = 322").are("busiest 0 = 20", "busiest 1 = 24");
    runs(CRANES + likeShips(1, "10 0 0 0 0 0 0 1 1"), "put 0 0 100 1 = 101").are("busiest 0 = 0", "busiest 1 = 0");
  }

  /** "In how many SLOTS cranes at WORK could not be DEALT, if a CRANE were not there" */
  private static void withoutEachCrane() {
    Runs two = runs("crane 0 299;crane 0 299;" + likeShips(2, "10 0 0 24 0 0 0 1 2"));
    two.are("without 0 = 0", "without 1 = 0", "without 2 = -1", "put 0 0 0 1 = 2", "without 0 = 0", "without 1 = 0", "hours 0 = 2",
        "hours 1 = 0", "put 1 50 1 1 = 3", "without 0 = 1", "without 1 = 1", "hours 0 = 3", "hours 1 = 1");
    runs("crane 0 299;crane 0 299;" + likeShips(2, "10 0 0 24 0 0 0 1 2"), "put 0 0 0 2 = 1").are("without 0 = 1", "without 1 = 1");
    runs("crane 0 299;" + likeShips(1, "10 0 0 4020 0 0 0 1 1"), "put 0 0 0 1 = 335").are("without 0 = 335", "hours 0 = 335",
        "count 15 = 335");
    // crane 1 can take the place of crane 0, not that of crane 2
    runs("crane 0 50;crane 0 50;crane 200 299;" + likeShips(2, "10 0 0 24 0 0 0 1 2"), "put 0 0 0 1 = 2", "put 1 250 0 1 = 2").are(
        "without 0 = 0", "without 1 = 0", "without 2 = 2", "hours 1 = 0");
  }

  /** "in hundredths of QUAY times 48, cut" */
  private static void usedCut() {
    // one slot of a quay of 50 metres: 24 metres are a hundredth of 50 times 48
    int[][] due = {{1, 0}, {23, 0}, {24, 1}, {25, 1}, {47, 1}, {48, 2}, {50, 2}};
    for (int[] one : due) {
      runs("quay 50;crane 0 49;" + ship('a', one[0] + " 0 0 12 0 0 0 1 1"), "put 0 0 47 1 = 48").are("used 0 = " + one[1], "used 1 = 0");
      runs("quay 50;crane 0 49;" + ship('a', one[0] + " 0 0 12 0 0 0 1 1"), "put 0 0 48 1 = 49").are("used 0 = 0", "used 1 = " + one[1]);
    }
    runs("quay 50;crane 0 49;" + ship('a', "50 0 0 4020 0 0 0 1 1"), "put 0 0 0 1 = 335").are("used 0 = 100", "used 5 = 100", "used 6 = 97");
    runs("quay 50;crane 0 49;" + ship('a', "49 0 0 4020 0 0 0 1 1"), "put 0 0 0 1 = 335").are("used 0 = 98", "used 6 = 95");
    runs("quay 999;crane 0 999;" + ship('a', "400 0 0 4020 0 0 0 1 1"), "put 0 0 0 1 = 335").are("used 0 = 40", "used 6 = 39");
  }

  private static void ranksOfMany() {
    Runs runs = runs("crane 0 299;" + likeShips(14, "10 0 0 12 0 3 2 1 1"));
    runs.are("rank 2 0 = 14", "rank 2 1 = 0", "rank 2 2 = 0", "rank 2 3 = 0", "rank 2 4 = 0", "rank 0 0 = 0", "rank 3 0 = 0");
    // the slots 0 to 13: they leave in 1 to 14, late by 0, 0, 0, 1 to 11
    runs.are("all 0 = 14", "rank 2 0 = 14", "rank 2 1 = 14", "rank 2 2 = 66", "rank 2 3 = 11", "rank 2 4 = 132", "count 14 = 132",
        "rank 1 1 = 0", "rank 1 3 = 0", "rank 3 4 = 0", "away 13 = 1", "rank 2 0 = 14", "rank 2 1 = 13", "rank 2 2 = 55", "rank 2 3 = 10");
  }

  /** "by the SLOT in which it LEAVES, of like ones by number" */
  private static void leaversOfLikeOnes() {
    Runs runs = runs(CRANES + ship('a', "10 0 0 36 0 0 0 1 1") + ship('b', "10 0 0 24 0 0 0 1 1") + ship('c', "10 0 0 12 0 0 0 1 1")
        + ship('d', "10 0 0 12 0 0 0 1 1"));
    runs.are("leaver 0 = -2", "put 2 0 2 1 = 3", "leaver 0 = 2", "leaver 1 = -2", "put 1 50 1 1 = 3", "put 0 100 0 1 = 3", "leaver 0 = 0",
        "leaver 1 = 1", "leaver 2 = 2", "leaver 3 = -2", "put 3 150 0 1 = 1", "leaver 0 = 3", "leaver 1 = 0", "leaver 3 = 2",
        "leaver 4 = -2", "leaver -1 = -1", "meet 0 1 = 2", "meet 0 2 = 1", "meet 1 2 = 1", "meet 0 3 = 1", "meet 1 3 = 0", "away 0 = 1",
        "meet 0 1 = 0", "meet 1 0 = 0", "leaver 0 = 3", "leaver 1 = 1", "leaver 3 = -2");
  }

  private static String[] octets(String due) {
    String[] rows = new String[due.length() + 2];
    rows[0] = "write = " + due.length();
    for (int i = 0; i < due.length(); i++) rows[i + 1] = "octet " + i + " = " + (int) due.charAt(i);
    rows[due.length() + 1] = "octet " + due.length() + " = -1";
    return rows;
  }

  /** "its NAME, then x, t, k as digits" */
  private static void writtenNumbers() {
    String text = "quay 999;" + "crane 0 999;".repeat(8) + ship('a', "1 0 0 0 0 0 0 1 8") + "ship abcdefgh 1 0 0 0 0 0 0 1 8;";
    int[][] stays = {{0, 0, 1}, {9, 9, 8}, {10, 10, 2}, {99, 99, 7}, {100, 100, 3}, {101, 101, 6}, {998, 334, 5}, {500, 300, 4},
      {109, 209, 1}, {990, 90, 1}};
    for (int[] one : stays) {
      String numbers = " " + one[0] + " " + one[1] + " " + one[2];
      runs(text, "put 0" + numbers + " = " + (one[1] + 1)).are(octets("a" + numbers + ";"));
      runs(text, "put 1" + numbers + " = " + (one[1] + 1)).are(octets("abcdefgh" + numbers + ";"));
    }
    runs(text).are(octets(""));
    runs(text, "put 1 0 0 1 = 1", "put 0 1 0 1 = 1").are(octets("a 1 0 1;abcdefgh 0 0 1;"));
    // what was written last stays, though the stays change; a shorter one leaves nothing of it
    runs(text, "put 1 0 0 1 = 1", "put 0 1 0 1 = 1", "write = 23", "away 1 = 1", "octet 22 = 59").are("octet 8 = 97", "octet 7 = 59",
        "write = 8", "octet 7 = 59", "octet 8 = -1", "octet 22 = -1", "away 0 = 1", "octet 7 = 59", "write = 0", "octet 0 = -1");
  }

  /** "12 are kept" */
  private static void twelveActsAreKept() {
    for (int acts = 10; acts <= 26; acts++) {
      String[] rows = new String[2 * acts + 30];
      int n = 0;
      rows[n++] = "put 0 0 0 1 = 1";
      for (int i = 1; i < acts; i++) {
        rows[n++] = "move 0 1 0 = 1";
        rows[n++] = "count 11 = " + Math.min(12, i + 1);
      }
      for (int kept = Math.min(12, acts) - 1; kept >= 0; kept--) {
        rows[n++] = "undo = " + kept;
        rows[n++] = "ship 0 9 = " + (acts <= 12 && kept == 0 ? -2 : acts - Math.min(12, acts) + kept - 1);
      }
      rows[n++] = "undo = -1";
      rows[n++] = "count 11 = 0";
      rows[n++] = "ship 0 9 = " + (acts <= 12 ? -2 : acts - 13);
      runs(CRANES + likeShips(2, "10 0 0 12 0 0 0 1 1")).are(java.util.Arrays.copyOf(rows, n));
    }
    // each kind of ACT is one, and is undone as one
    runs(CRANES + likeShips(4, "10 0 0 12 0 0 0 1 1")).are("put 0 0 9 1 = 10", "count 11 = 1", "itself 1 = 0", "count 11 = 2",
        "away 1 = 1", "count 11 = 3", "all 0 = 3", "count 11 = 4", "move 0 5 0 = 10", "count 11 = 5", "swap 0 1 = 1", "count 11 = 6",
        "squeeze = 1", "count 11 = 7", "away 3 = 1", "away 2 = 1", "four = 2", "count 11 = 10", "undo = 9", "count 10 = 2", "undo = 8",
        "undo = 7", "count 10 = 4", "undo = 6", "ship 1 10 = 9", "undo = 5", "ship 1 10 = 0", "undo = 4", "ship 0 9 = 0", "undo = 3",
        "count 10 = 1", "undo = 2", "ship 1 10 = 0", "undo = 1", "count 10 = 1", "undo = 0", "count 10 = 0", "undo = -1");
  }

  /** "no ACTS can be undone then" */
  private static void noActsBehindBack() {
    Runs runs = runs(CRANES + likeShips(2, "10 0 0 12 0 0 0 1 1"), "mark 3 = 0", "put 0 0 5 1 = 6", "mark 0 = 1", "put 1 50 5 1 = 6");
    runs.are("count 11 = 2", "back 3 = 0", "count 11 = 0", "undo = -1", "count 10 = 0", "count 12 = 2", "back 0 = 1", "ship 0 9 = 0",
        "ship 1 9 = -2", "undo = -1", "put 1 60 5 1 = 6", "count 11 = 1", "undo = 0", "undo = -1", "ship 0 10 = 5", "differs 3 = 1",
        "differs 0 = 0");
    runs.are("back 1 = -1", "count 11 = 2", "back 4 = -1", "count 11 = 2", "back -1 = -1", "undo = 1");
    // behind back() twelve are kept again
    String[] rows = new String[29];
    rows[0] = "back 0 = 1";
    for (int i = 1; i <= 13; i++) rows[i] = "move 0 1 0 = 6";
    rows[14] = "count 11 = 12";
    for (int i = 0; i < 12; i++) rows[15 + i] = "undo = " + (11 - i);
    rows[27] = "undo = -1";
    rows[28] = "ship 0 9 = 1";
    runs.are(rows);
  }

  /** "it was never made" */
  private static void marksNeverMade() {
    String text = CRANES + likeShips(2, "10 0 0 12 0 0 0 1 1");
    Runs runs = runs(text, "put 0 0 5 1 = 6", "mark 1 = 1");
    runs.are("count 12 = 1", "differs 0 = -1", "differs 1 = 0", "differs 2 = -1", "back 0 = -1", "back 2 = -1", "mark 1 = 1", "count 12 = 1",
        "mark 2 = 1", "count 12 = 2", "mark 0 = 1", "mark 3 = 1", "count 12 = 4", "mark 4 = -1", "mark -1 = -1", "count 12 = 4");
    // a TEXT without a fault ends all marks, one with a fault none
    runs.are("tape:gap 51;", "text 7 = -1", "count 12 = 1", "differs 1 = 0", "back 1 = 1", "tape:" + text, "text " + text.length() + " = 5",
        "count 12 = 0", "differs 1 = -1", "back 1 = -1", "mark 1 = 0", "differs 1 = 0", "differs 0 = -1");
    // made anew, it holds what is now
    runs.are("away 0 = 1", "mark 1 = 0", "put 1 0 0 1 = 1", "differs 1 = 2", "back 1 = 0", "count 10 = 0");
  }

  /** "another STAY now than by a MARK, or none by one of both" */
  private static void differencesOfOneShip() {
    Runs runs = runs(CRANES + likeShips(2, "10 0 0 12 0 0 0 1 2"), "put 0 5 5 1 = 6", "mark 0 = 1");
    runs.are("move 0 1 0 = 6", "differs 0 = 1", "move 0 -1 0 = 6", "differs 0 = 0", "move 0 0 1 = 7", "differs 0 = 1", "move 0 0 -1 = 6",
        "away 0 = 1", "differs 0 = 1", "put 0 5 5 2 = 6", "differs 0 = 1", "away 0 = 1", "put 0 5 5 1 = 6", "differs 0 = 0",
        "put 1 50 5 1 = 6", "differs 0 = 2", "mark 1 = 2", "away 1 = 1", "differs 0 = 0", "differs 1 = 2", "away 0 = 1", "differs 1 = 3");
    // a stay that was, and is no more: none by both
    runs(CRANES + likeShips(2, "10 0 0 12 0 0 0 1 2"), "put 0 5 5 1 = 6", "away 0 = 1", "mark 0 = 0").are("differs 0 = 0", "put 0 6 5 1 = 6",
        "away 0 = 1", "differs 0 = 0");
  }

  /** All that there can be: 8 sections, 8 cranes, 30 tides, 14 ships, of which each has a STAY. */
  private static void fullHarbour() {
    StringBuilder text = new StringBuilder("quay 280;channel 300;");
    for (int i = 0; i < 8; i++) text.append("section ").append(35 * i).append(" ").append(108 - i).append(";crane 0 279;");
    for (int i = 0; i < 30; i++) text.append("tide ").append(11 * i).append(" ").append(i % 2).append(";");
    text.append(likeShips(14, "20 0 0 12 0 9 3 1 1"));
    String[] rows = new String[14];
    for (int i = 0; i < 14; i++) rows[i] = "put " + i + " " + 20 * i + " " + (10 + i) + " 1 = " + (11 + i);
    Runs runs = new Runs(CHECK, text.toString(), rows);
    runs.are("count 6 = 8", "count 7 = 8", "count 8 = 30", "count 9 = 14", "count 10 = 14", "count 11 = 12", "count 15 = 14", "count 14 = 119",
        "depth 279 = 101", "depth 244 = 102", "shallow 0 279 = 101", "shallow 245 279 = 101", "shallow 0 34 = 108", "level 319 = 1",
        "level 318 = 0", "tide 0 335 1 = 11", "shut 300 0 = 0");
    runs.are("at 10 0 = 0", "at 23 279 = 13", "at 23 259 = -2", "at 24 279 = -2", "at 9 0 = -2", "lies 23 -1 = 1", "lies 23 0 = 13",
        "lies 23 1 = -2", "free 23 0 = 260", "free 24 0 = 280", "works 0 23 = 13", "works 7 23 = -2", "hours 0 = 14", "hours 7 = 0",
        "without 7 = 0", "left 13 23 = 12", "left 13 24 = 0", "shift 0 0 0 = 72", "shift 0 1 0 = 96", "busiest 0 = 1", "busiest 1 = 96",
        "used 0 = 2", "used 1 = 0", "rank 3 1 = 14", "rank 3 2 = 119", "rank 3 3 = 15", "leaver 13 = 13", "leaver 14 = -2",
        "order 3 13 = 13", "order 3 14 = -2", "meet 12 13 = 0", "along 13 0 = 0", "along 13 1 = 260", "slack 13 = 311", "hopeless = 0",
        "all 0 = -2", "best 0 = -1", "four = -1", "inWay 13 0 10 1 = 1", "breaks 13 0 10 1 = 7", "places 13 10 1 -1 = 25",
        "earliest 13 1 0 = 0");
    // eight cranes in slot 0, six in slot 1
    runs.are("mark 3 = 14", "squeeze = 14", "ship 7 10 = 0", "ship 8 10 = 1", "ship 13 10 = 1", "lies 0 -1 = 8", "lies 0 7 = 7", "lies 1 -1 = 6",
        "lies 1 5 = 13", "works 7 0 = 7", "works 5 1 = 13", "works 6 1 = -2", "without 7 = 1", "hours 7 = 1", "free 0 0 = 120",
        "free 0 1 = 160", "differs 3 = 16383", "swap 0 13 = 2", "swap 13 0 = 2", "squeeze = -1", "undo = 11", "undo = 10", "undo = 9",
        "differs 3 = 0", "back 3 = 14", "differs 3 = 0");
    runs.are("away 13 = 1", "squeeze = 13", "itself 13 = 1", "ship 13 9 = 0", "all 0 = -2", "away 0 = 1", "away 13 = 1", "all 0 = 2", "four = -1",
        "away 13 = 1", "best 2 = 13", "four = 1", "count 10 = 14");
  }
}
