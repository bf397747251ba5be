/**
 * Each LAW in each call that looks for a STAY by which no LAW is broken: EARLIEST, BY ITSELF, all, FOUR, squeeze, places,
 * hopeless, slack, along. Where breaks() says that one is broken, none of them may go, and where it says none, they do.
 */
public final class LawfulTest {
  private static final Check CHECK = new Check();
  /** LEVEL is 1 in slots 10 to 12 and 20 to 30, else 0. */
  private static final String TIDES = "tide 9 0;tide 10 1;tide 12 1;tide 13 0;tide 19 0;tide 20 1;tide 30 1;tide 31 0;";

  public static void main(String[] args) {
    lawOne();
    lawTwo();
    lawThree();
    lawFour();
    lawFive();
    lawSixInEachSlot();
    lawSixWhileItWaits();
    lawSixAtItsMetre();
    lawSeven();
    lawSevenAtItsMetre();
    lawEight();
    lawNineAlongTheQuay();
    lawNineInTime();
    lawNineAtItsMetre();
    lawNineWithFewerCranes();
    CHECK.end();
  }

  private static Runs runs(String text, String... ahead) {
    return new Runs(CHECK, text, ahead);
  }

  private static void lawOne() {
    Runs runs = runs("quay 65;crane 0 64;ship a 45 0 0 12 0 0 3 1 1;ship b 66 0 0 12 0 0 3 1 1;ship c 56 0 0 12 0 0 3 1 1;");
    runs.are("earliest 0 1 1 = 0", "earliest 1 1 1 = -2", "earliest 2 1 1 = 0", "places 0 0 1 -1 = 3", "places 1 0 1 -1 = 0",
        "places 2 0 1 -1 = 1", "hopeless = 2", "best 0 = 1", "best 1 = 3", "all 0 = 2", "ship 2 10 = 1", "along 0 1 = 20", "along 2 1 = 9",
        "move 0 20 0 = 1", "move 0 1 0 = -2", "move 0 -20 0 = 1", "move 0 -1 0 = -2", "itself 1 = -2");
  }

  private static void lawTwo() {
    Runs runs = runs("crane 0 299;ship a 10 0 0 12 7 0 3 1 1;");
    runs.are("earliest 0 1 0 = 7", "places 0 6 1 -1 = 0", "places 0 7 1 -1 = 30", "best 1 = 8", "itself 0 = 7", "move 0 0 9 = 17", "squeeze = 1",
        "ship 0 10 = 7", "squeeze = -1", "move 0 0 -1 = -3", "away 0 = 1", "all 2 = 1", "ship 0 10 = 7", "away 0 = 1", "four = 1",
        "ship 0 10 = 7");
  }

  private static void lawThree() {
    Runs runs = runs("crane 0 299;crane 0 299;crane 0 299;ship a 10 0 0 48 0 0 3 2 2;");
    runs.are("earliest 0 1 0 = -2", "earliest 0 2 0 = 0", "earliest 0 3 0 = -2", "places 0 0 1 -1 = 0", "places 0 0 2 -1 = 30",
        "places 0 0 3 -1 = 0", "best 1 = 2", "itself 0 = 0", "ship 0 11 = 2", "move 0 7 9 = 11", "ship 0 11 = 2", "squeeze = 1", "ship 0 11 = 2");
  }

  private static void lawFour() {
    Runs runs = runs("section 0 200;" + TIDES + "crane 0 299;ship a 10 101 0 12 0 0 3 1 1;ship b 10 101 0 12 31 0 3 1 1;");
    runs.are("earliest 0 1 0 = 10", "earliest 0 1 1 = 0", "earliest 0 1 2 = 11", "places 0 9 1 -1 = 0", "places 0 10 1 -1 = 30",
        "places 0 13 1 -1 = 0", "earliest 1 1 0 = -2", "hopeless = 2", "best 0 = 1", "best 1 = 11", "itself 1 = -2", "itself 0 = 10",
        "slack 0 = 20", "move 0 0 2 = 13", "move 0 0 1 = -5", "slack 0 = 18", "squeeze = 1", "ship 0 10 = 10", "move 0 0 20 = 31",
        "slack 0 = 0", "squeeze = 1", "ship 0 10 = 10", "along 0 0 = 0", "along 0 1 = 290");
    runs.are("all 0 = 1", "ship 0 10 = 10", "undo = 0", "four = 1", "ship 0 10 = 10");
  }

  /** a works 5 slots with one crane, 3 with two; it can leave in slots 10 to 12 and 20 to 30. */
  private static void lawFive() {
    Runs runs = runs("section 0 200;" + TIDES + "crane 0 299;crane 0 299;ship a 10 0 101 60 0 0 3 1 2;ship b 10 0 101 60 26 0 3 1 2;"
        + "ship c 10 0 101 60 28 0 3 1 2;");
    runs.are("earliest 0 1 0 = 0", "earliest 0 1 2 = 10", "earliest 1 1 0 = -2", "earliest 1 2 0 = 26", "earliest 1 2 2 = 29",
        "earliest 2 2 0 = -2", "places 1 26 1 -1 = 0", "places 1 26 2 -1 = 30", "places 1 27 2 -1 = 30", "places 1 28 2 -1 = 0", "hopeless = 4",
        "best 0 = 1", "best 1 = 39", "itself 2 = -2", "itself 1 = 26", "slack 1 = 1", "put 0 100 0 1 = 10", "slack 0 = 21",
        "move 0 0 22 = -9", "away 1 = 1", "slack 0 = 25", "move 0 0 25 = 30", "slack 0 = 0", "move 0 0 1 = -6", "squeeze = 1", "ship 0 10 = 0");
  }

  /** LEVEL 1 is needed in each slot: a lies in 2 slots, b in 4. */
  private static void lawSixInEachSlot() {
    Runs runs = runs("channel 300;section 0 100;" + TIDES + "crane 0 299;ship a 10 101 0 24 0 0 3 1 1;ship b 10 0 101 48 0 0 3 1 1;"
        + "ship c 10 101 101 144 0 0 3 1 1;");
    runs.are("earliest 0 1 0 = 10", "earliest 1 1 0 = 20", "earliest 1 1 1 = 0", "earliest 2 1 0 = -2", "breaks 1 0 10 1 = 6",
        "places 0 9 1 -1 = 0", "places 0 11 1 -1 = 30", "places 0 12 1 -1 = 0", "places 1 10 1 -1 = 0", "places 1 20 1 -1 = 30", "hopeless = 4",
        "best 0 = 1", "best 1 = 36", "itself 2 = -2", "itself 1 = 20", "slack 1 = 7", "move 1 0 8 = -7", "move 1 0 7 = 31", "squeeze = 1",
        "ship 1 10 = 20", "itself 0 = 10", "slack 0 = 19", "move 0 0 2 = -7", "move 0 50 1 = 13", "squeeze = 1", "ship 0 10 = 10");
    runs.are("all 0 = 2", "ship 0 10 = 10", "ship 1 10 = 20", "undo = 0", "four = 2", "ship 0 10 = 10", "ship 1 10 = 20");
  }

  /** It needs 110 at a depth of 109 and can leave in slots 20 to 22 alone: LEVEL is 10 then, else 0. */
  private static void lawSixWhileItWaits() {
    Runs runs = runs("section 0 109;tide 19 0;tide 20 10;tide 22 10;tide 23 0;crane 0 299;ship a 10 0 110 12 0 0 3 1 1;");
    runs.are("breaks 0 0 0 1 = 6", "breaks 0 0 19 1 = 6", "breaks 0 0 20 1 = 0", "earliest 0 1 0 = 20", "earliest 0 1 2 = 21", "best 1 = 21",
        "itself 0 = 20", "slack 0 = 1", "move 0 0 1 = 22", "squeeze = 1", "ship 0 10 = 20", "slack 0 = 1");
  }

  /** At 0 to 99 it is deep enough while LEVEL is 1, at 100 to 199 always, from 200 on never. */
  private static void lawSixAtItsMetre() {
    Runs runs = runs("channel 300;section 0 100;section 100 101;section 200 50;" + TIDES + "crane 0 299;ship a 10 101 0 24 0 0 3 1 1;");
    runs.are("earliest 0 1 0 = 0", "earliest 0 1 1 = 100", "places 0 0 1 -1 = 10", "places 0 0 1 0 = 100", "places 0 0 1 9 = 190",
        "places 0 10 1 -1 = 20", "put 0 50 10 1 = 12", "slack 0 = 19", "along 0 0 = 0", "along 0 1 = 190", "move 0 0 19 = 31", "squeeze = 1",
        "ship 0 10 = 10", "move 0 50 0 = 12", "slack 0 = 323", "squeeze = 1", "ship 0 10 = 0", "along 0 0 = 100", "along 0 1 = 190");
  }

  /** a lies at 0 to 49 in slots 0 to 9; b is as long as the quay, c has room beside it. */
  private static void lawSeven() {
    Runs runs = runs("quay 100;gap 5;crane 0 99;crane 0 99;ship a 50 0 0 120 0 0 3 1 1;ship b 100 0 0 12 0 0 3 1 1;ship c 40 0 0 12 0 0 3 1 1;",
        "put 0 0 0 1 = 10");
    runs.are("earliest 1 1 0 = 10", "earliest 2 1 0 = 0", "earliest 2 1 1 = 60", "places 2 0 1 -1 = 1", "places 2 0 1 0 = 60",
        "places 1 9 1 -1 = 0", "places 1 10 1 -1 = 1", "hopeless = 0", "best 0 = 0", "best 1 = 12", "itself 1 = 10", "itself 2 = 0",
        "along 2 0 = 55", "along 2 1 = 60", "squeeze = -1", "move 1 0 9 = 20", "squeeze = 1", "ship 1 10 = 10", "along 0 1 = 5", "slack 2 = 334",
        "slack 0 = 325");
    runs.are("all 0 = 2", "ship 1 10 = 10", "ship 2 10 = 0", "ship 2 9 = 60", "undo = 1", "four = 2", "ship 1 10 = 10", "ship 2 9 = 60");
  }

  /** a lies at 200 to 209 from slot 100 up to the end. */
  private static void lawSevenAtItsMetre() {
    Runs runs = runs("crane 0 299;crane 0 299;ship a 10 0 0 2820 0 0 3 1 1;ship b 10 0 0 24 0 0 3 1 1;", "put 0 200 100 1 = 335",
        "put 1 205 0 1 = 2");
    runs.are("slack 1 = 98", "move 1 5 0 = 2", "slack 1 = 333", "move 1 -20 0 = 2", "slack 1 = 333", "move 1 1 0 = 2", "slack 1 = 98");
  }

  /** No gang in slots 0 to 15 and from 304 on, one in slots 16 to 31. */
  private static void lawEight() {
    Runs runs = runs("gangs 0 0 0;gangs 0 1 1;gangs 6 1 0;gangs 6 2 0;crane 0 299;crane 0 299;ship a 10 0 0 24 0 0 3 1 1;"
        + "ship b 10 0 0 48 0 0 3 1 2;ship c 10 0 0 24 304 0 3 1 2;");
    runs.are("earliest 0 1 0 = 16", "earliest 1 2 0 = 32", "earliest 1 1 0 = 16", "earliest 2 1 0 = -2", "places 0 15 1 -1 = 0",
        "places 0 16 1 -1 = 30", "places 1 16 2 -1 = 0", "hopeless = 4", "best 0 = 1", "best 1 = 52", "itself 1 = 32", "ship 1 11 = 2",
        "squeeze = -1", "slack 1 = 270", "itself 0 = 16", "slack 0 = 286", "move 0 50 4 = 22", "squeeze = 1", "ship 0 10 = 16",
        "move 0 0 -1 = -9", "move 0 0 287 = -9", "move 0 0 286 = 304", "itself 2 = -2");
  }

  /** a at 0 to 9 has crane 0 in slots 10 to 13; crane 1 reaches from metre 100 on, and can't pass crane 0. */
  private static void lawNineAlongTheQuay() {
    Runs runs = runs("quay 150;crane 0 149;crane 100 149;ship a 10 0 0 48 10 0 3 1 1;ship b 10 0 0 24 10 0 3 1 1;", "put 0 0 10 1 = 14");
    runs.are("breaks 1 10 10 1 = 9", "breaks 1 90 10 1 = 9", "breaks 1 91 10 1 = 0", "earliest 1 1 0 = 10", "earliest 1 1 1 = 100",
        "places 1 10 1 -1 = 5", "places 1 10 1 0 = 100", "places 1 14 1 -1 = 15", "best 1 = 12", "itself 1 = 10", "ship 1 9 = 100",
        "along 1 0 = 91", "along 1 1 = 140", "move 1 -10 0 = -10", "move 1 -9 0 = 12", "along 1 0 = 91", "move 1 9 4 = 16", "squeeze = 1",
        "ship 1 10 = 10", "move 1 -80 4 = 16", "squeeze = -1", "along 1 0 = 0");
    runs.are("all 0 = 1", "ship 1 9 = 100", "ship 1 10 = 10", "undo = 1", "four = 1", "ship 1 9 = 100", "works 1 11 = 1", "works 0 11 = 0");
    // b ahead of a would take a's crane 0, if crane 1 does not reach a
    runs("quay 150;crane 0 149;crane 100 149;ship a 10 0 0 48 10 0 3 1 1;ship b 10 0 0 24 10 0 3 1 1;", "put 0 50 10 1 = 14").are(
        "breaks 1 0 10 1 = 9", "earliest 1 1 1 = 100", "places 1 10 1 -1 = 5", "itself 1 = 10", "ship 1 9 = 100");
    runs("quay 150;crane 0 149;crane 100 149;ship a 10 0 0 48 10 0 3 1 1;ship b 10 0 0 24 10 0 3 1 1;", "put 0 91 10 1 = 14").are(
        "breaks 1 0 10 1 = 0", "earliest 1 1 1 = 0", "itself 1 = 10", "ship 1 9 = 0", "works 0 10 = 1", "works 1 10 = 0", "along 0 0 = 91",
        "away 1 = 1", "along 0 0 = 0");
  }

  /** Crane 1 reaches nothing: b has to wait till a's work ends, though there are gangs for both. */
  private static void lawNineInTime() {
    Runs runs = runs("quay 100;crane 0 99;crane 100 149;ship a 10 0 0 48 10 0 3 1 1;ship b 10 0 0 24 9 0 3 1 1;ship c 10 0 0 24 0 0 3 1 2;",
        "put 0 50 10 1 = 14");
    runs.are("breaks 1 0 9 1 = 9", "breaks 1 0 13 1 = 9", "earliest 1 1 0 = 14", "earliest 1 1 1 = 0", "earliest 2 1 0 = 0", "earliest 2 2 0 = -2",
        "places 1 13 1 -1 = 0", "places 1 14 1 -1 = 10", "hopeless = 0", "best 0 = 0", "best 1 = 18", "itself 1 = 14", "move 1 0 3 = 19",
        "squeeze = 1", "ship 1 10 = 14", "move 1 0 -1 = -10", "itself 2 = 0", "ship 2 11 = 1", "slack 2 = 333");
    runs.are("all 0 = 2", "ship 1 10 = 14", "ship 2 10 = 0", "undo = 1", "four = 2", "ship 1 10 = 14", "ship 2 11 = 1");
  }

  /** a has crane 0 from slot 10 up to the end: b at 20 has no crane then, at 100 it has crane 1. */
  private static void lawNineAtItsMetre() {
    Runs runs = runs("quay 150;crane 0 149;crane 100 149;ship a 10 0 0 3900 10 0 3 1 1;ship b 10 0 0 24 0 0 3 1 1;", "put 0 0 10 1 = 335",
        "put 1 20 0 1 = 2");
    runs.are("slack 1 = 8", "move 1 0 8 = 10", "move 1 0 1 = -10", "slack 1 = 0", "squeeze = 1", "ship 1 10 = 0", "move 1 80 0 = 2", "slack 1 = 333",
        "move 1 0 333 = 335", "squeeze = 1", "ship 1 10 = 0");
  }

  /** Nine gangs on day 0, two cranes: a has one of them in slots 0 to 9, so that b has but one then. */
  private static void lawNineWithFewerCranes() {
    String text = "gangs 0 0 9;gangs 0 1 9;crane 0 299;crane 0 299;ship a 10 0 0 120 0 0 3 1 1;ship b 10 0 0 24 0 0 3 1 2;";
    runs(text, "put 0 0 0 1 = 10").are("earliest 1 2 0 = 10", "earliest 1 1 0 = 0", "places 1 0 2 -1 = 0", "places 1 0 1 -1 = 29", "best 1 = 11",
        "itself 1 = 10", "ship 1 11 = 2", "squeeze = -1");
    // all week long: two cranes are not to be had, so one
    runs("crane 0 299;crane 0 299;ship a 10 0 0 4020 0 0 3 1 1;ship b 10 0 0 24 0 0 3 1 2;", "put 0 0 0 1 = 335").are("earliest 1 2 0 = -2",
        "best 0 = 0", "best 1 = 2", "itself 1 = 0", "ship 1 11 = 1", "ship 1 9 = 10");
  }
}
