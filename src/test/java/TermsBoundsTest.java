/** The bounds that the document's terms name: DEPTH, LEVEL, GANGS, OPEN, MOVES, WORK, a STAY, its LAWS, DEALT, EARLIEST, LATE. */
public final class TermsBoundsTest {
  private static final Check CHECK = new Check();

  public static void main(String[] args) {
    depthWithoutASection();
    leastDepth();
    levelOfEverySlot();
    levelCutDown();
    levelAheadAndBehind();
    gangsWithout();
    openAtTheLeast();
    openNextAndShut();
    movesCutAndAtLeast();
    workCutUpAndAtLeast();
    leavesInTheFirstOpenSlot();
    theRestInTheLastSlot();
    lawOneAndTwo();
    lawThree();
    lawFourAndFive();
    lawSix();
    lawSevenAlongTheQuay();
    lawSevenInTime();
    lawEight();
    lawNine();
    firstLawThatIsBroken();
    wholeNumbersOfTens();
    leastSlotAheadOfLeastMetre();
    byItselfDownToLeast();
    lateAndCost();
    CHECK.end();
  }

  private static Runs runs(String text, String... ahead) {
    return new Runs(CHECK, text, ahead);
  }

  /** "that of the section with the greatest metre not above it; 100 without one" */
  private static void depthWithoutASection() {
    runs("quay 60;section 59 7;section 30 0;section 60 9;section 31 300;section 999 1;").are("depth 0 = 100", "depth 29 = 100",
        "depth 30 = 0", "depth 31 = 300", "depth 32 = 300", "depth 58 = 300", "depth 59 = 7", "depth 60 = -1");
    runs("section 0 5;").are("depth 0 = 5", "depth 299 = 5");
    runs("section 1 5;").are("depth 0 = 100", "depth 1 = 5");
    runs("section 0 5;section 299 6;").are("depth 298 = 5", "depth 299 = 6");
    runs("section 300 5;").are("depth 299 = 100", "shallow 0 299 = 100");
    runs("quay 999;section 998 5;section 999 6;").are("depth 997 = 100", "depth 998 = 5");
  }

  private static void leastDepth() {
    runs("quay 60;section 59 7;section 30 0;section 60 9;section 31 300;").are("shallow 0 29 = 100", "shallow 0 30 = 0",
        "shallow 29 29 = 100", "shallow 30 30 = 0", "shallow 31 31 = 300", "shallow 29 31 = 0", "shallow 31 58 = 300",
        "shallow 31 59 = 7", "shallow 58 59 = 7", "shallow 59 59 = 7", "shallow 0 59 = 0", "shallow 30 29 = -1",
        "shallow 59 58 = -1", "shallow 59 0 = -1");
  }

  /** The words of the document, slot by slot, with fractions compared as whole numbers. */
  private static int levelByWords(int[][] told, int slot) {
    int[] earlier = null;
    int[] later = null;
    for (int[] one : told) {
      if (one[0] <= slot && (earlier == null || one[0] > earlier[0])) earlier = one;
      if (one[0] > slot && (later == null || one[0] < later[0])) later = one;
    }
    if (earlier == null) return later == null ? 0 : later[1];
    if (later == null) return earlier[1];
    int share = (later[1] - earlier[1]) * (slot - earlier[0]);
    int between = later[0] - earlier[0];
    int cut = -200;
    while ((cut + 1) * between <= share) cut++;
    return earlier[1] + cut;
  }

  private static void levelOfEverySlot() {
    int[][][] tides = {{{0, 0}, {335, 99}}, {{0, 99}, {335, 0}}, {{0, 10}, {12, 40}, {24, 10}, {37, 3}, {50, 99}, {51, 0}},
      {{334, 50}, {1, 49}, {2, 99}}, {{100, 7}}, {{0, 5}}, {{335, 6}}, {{7, 1}, {9, 0}, {11, 1}}, {}};
    for (int[][] told : tides) {
      StringBuilder text = new StringBuilder();
      for (int[] one : told) text.append("tide ").append(one[0]).append(' ').append(one[1]).append(';');
      String[] rows = new String[336];
      for (int slot = 0; slot < 336; slot++) rows[slot] = "level " + slot + " = " + levelByWords(told, slot);
      runs(text.toString()).are(rows);
    }
  }

  /** "the earlier one's and ... cut down" */
  private static void levelCutDown() {
    runs("tide 0 0;tide 335 99;").are("level 0 = 0", "level 1 = 0", "level 3 = 0", "level 4 = 1", "level 334 = 98",
        "level 335 = 99");
    // falling: 99 less 0.29 is 98.71
    runs("tide 0 99;tide 335 0;").are("level 0 = 99", "level 1 = 98", "level 334 = 0", "level 335 = 0");
    runs("tide 10 10;tide 20 0;").are("level 10 = 10", "level 11 = 9", "level 15 = 5", "level 19 = 1", "level 20 = 0");
    runs("tide 10 1;tide 12 0;").are("level 10 = 1", "level 11 = 0", "level 12 = 0");
    runs("tide 10 0;tide 12 1;").are("level 10 = 0", "level 11 = 0", "level 12 = 1");
    runs("tide 7 50;tide 8 3;").are("level 6 = 50", "level 7 = 50", "level 8 = 3", "level 9 = 3");
  }

  private static void levelAheadAndBehind() {
    runs("tide 335 9;tide 334 4;").are("level 0 = 4", "level 333 = 4", "level 334 = 4", "level 335 = 9");
    runs("tide 1 9;tide 0 4;").are("level 0 = 4", "level 1 = 9", "level 2 = 9", "level 335 = 9");
    runs("gap 1;").are("level 0 = 0", "level 335 = 0", "tide 0 335 0 = 0", "tide 0 335 2 = 0");
    runs("tide 5 99;tide 6 0;tide 7 99;").are("tide 0 335 0 = 99", "tide 0 335 1 = 0", "tide 0 335 2 = 0", "tide 0 335 3 = 6",
        "tide 6 6 0 = 0", "tide 6 6 1 = 6", "tide 6 6 3 = 6", "tide 6 7 1 = 7", "tide 7 335 1 = 7", "tide 7 335 3 = 7",
        "tide 5 6 1 = 5", "tide 5 6 3 = 6", "tide 335 335 1 = 335", "tide 0 0 3 = 0");
  }

  /** "as told; as many as there are CRANES without" */
  private static void gangsWithout() {
    runs("gangs 0 0 9;gangs 6 2 0;").are("gangs 0 0 = 9", "gangs 6 2 = 0", "gangs 0 1 = 0");
    runs("crane 0 9;gangs 0 1 0;gangs 0 2 9;").are("gangs 0 0 = 1", "gangs 0 1 = 0", "gangs 0 2 = 9", "gangs 6 2 = 1");
    runs("gangs 3 1 0;" + "crane 0 9;".repeat(8)).are("gangs 3 0 = 8", "gangs 3 1 = 0", "gangs 3 2 = 8");
  }

  /** "OPEN ... if CHANNEL and LEVEL are that and KEEL at least" */
  private static void openAtTheLeast() {
    runs("").are("open 100 0 = 1", "open 101 0 = 0", "open 99 335 = 1");
    runs("channel 0;").are("open 0 0 = 1", "open 1 0 = 0", "open 300 335 = 0");
    runs("channel 0;keel 1;").are("open 0 0 = 0", "open 1 0 = 0");
    runs("channel 0;keel 30;tide 0 29;").are("open 0 0 = 0", "open 0 335 = 0");
    runs("channel 0;keel 30;tide 0 30;").are("open 0 0 = 1", "open 1 0 = 0");
    runs("channel 300;").are("open 300 0 = 1");
    runs("channel 299;").are("open 300 0 = 0", "open 299 0 = 1");
    runs("channel 300;keel 30;tide 0 30;").are("open 300 0 = 1");
    runs("channel 300;keel 30;tide 0 29;").are("open 300 0 = 0", "open 299 0 = 1");
    runs("channel 300;tide 0 99;").are("open 300 0 = 1");
  }

  private static void openNextAndShut() {
    // level 0 up to slot 9, 10 in slot 10, 0 in slots 11 to 333, 10 from slot 334 on
    Runs runs = runs("tide 9 0;tide 10 10;tide 11 0;tide 333 0;tide 334 10;");
    runs.are("next 100 0 = 0", "next 100 335 = 335", "next 101 0 = 10", "next 101 9 = 10", "next 101 10 = 10",
        "next 101 11 = 334", "next 101 334 = 334", "next 101 335 = 335", "next 110 0 = 10", "next 111 0 = -2",
        "next 111 335 = -2", "next 300 335 = -2", "next 0 335 = 335");
    runs.are("shut 0 0 = 0", "shut 0 1 = -2", "shut 100 0 = 0", "shut 100 1 = -2", "shut 101 0 = 323", "shut 101 1 = 11",
        "shut 110 0 = 323", "shut 111 0 = 336", "shut 111 1 = 0", "shut 300 0 = 336");
    // the first of like ones: 10 slots ahead of 10, 10 behind, then shut no more
    runs("tide 9 0;tide 10 10;tide 11 0;tide 20 0;tide 21 10;").are("shut 110 0 = 10", "shut 110 1 = 0");
    // the last slot alone
    runs("tide 334 1;tide 335 0;").are("shut 101 0 = 1", "shut 101 1 = 335", "next 101 335 = -2", "next 101 334 = 334");
    // the first slot alone
    runs("tide 0 0;tide 1 1;").are("shut 101 0 = 1", "shut 101 1 = 0", "next 101 0 = 1");
    // the later one is longer by one slot
    runs("tide 2 0;tide 3 1;tide 4 0;tide 7 0;tide 8 1;").are("shut 101 0 = 4", "shut 101 1 = 4");
  }

  /** "k times RATE times (100 less LOSS times (k less 1)) through 100, cut; k at least" */
  private static void movesCutAndAtLeast() {
    runs("rate 99;").are("moves 1 = 99", "moves 8 = 792");
    runs("rate 99;loss 10;").are("moves 1 = 99", "moves 2 = 178", "moves 8 = 237");
    runs("rate 1;loss 1;").are("moves 1 = 1", "moves 2 = 2", "moves 8 = 8");
    runs("rate 3;loss 10;").are("moves 7 = 8", "moves 8 = 8");
    runs("rate 4;loss 10;").are("moves 7 = 11", "moves 8 = 9");
    for (int rate = 1; rate <= 99; rate++) {
      for (int loss = 0; loss <= 10; loss++) {
        String[] rows = new String[8];
        for (int k = 1; k <= 8; k++) {
          int hundredths = k * rate * (100 - loss * (k - 1));
          int cut = (hundredths - hundredths % 100) / 100;
          rows[k - 1] = "moves " + k + " = " + (cut < k ? k : cut);
        }
        runs("rate " + rate + ";loss " + loss + ";").are(rows);
      }
    }
  }

  private static String oneShip(String numbers) {
    return "crane 0 299;crane 0 299;ship a " + numbers + ";";
  }

  /** "as many SLOTS as BOXES through MOVES, cut up; 1 at least" */
  private static void workCutUpAndAtLeast() {
    int[][] due = {{0, 1, 1}, {1, 1, 1}, {11, 1, 1}, {12, 1, 1}, {13, 2, 1}, {24, 2, 1}, {25, 3, 2}, {48, 4, 2}, {49, 5, 3},
      {4008, 334, 167}, {4020, 335, 168}};
    for (int[] one : due) {
      String text = oneShip("10 0 0 " + one[0] + " 0 999 0 1 2");
      runs(text).are("put 0 0 0 1 = " + one[1], "ship 0 12 = " + one[1], "count 15 = " + one[1]);
      runs(text).are("put 0 0 0 2 = " + one[2], "ship 0 12 = " + one[2], "count 15 = " + 2 * one[2]);
    }
    runs(oneShip("10 0 0 4021 0 999 0 1 2")).are("put 0 0 0 1 = -6", "put 0 0 0 2 = 168");
    runs(oneShip("10 0 0 8040 0 999 0 1 2")).are("put 0 0 0 2 = 335");
    runs(oneShip("10 0 0 8041 0 999 0 1 2")).are("put 0 0 0 2 = -6");
    runs("rate 99;" + oneShip("10 0 0 9999 0 999 0 1 2")).are("put 0 0 0 1 = 101");
    runs("rate 1;" + oneShip("10 0 0 335 0 999 0 1 2")).are("put 0 0 0 1 = 335");
    runs("rate 1;" + oneShip("10 0 0 336 0 999 0 1 2")).are("put 0 0 0 1 = -6", "put 0 0 0 2 = 168");
    runs("rate 1;" + oneShip("10 0 0 9999 0 999 0 1 2")).are("put 0 0 0 1 = -6", "breaks 0 0 335 1 = 5");
  }

  /** "it LEAVES in the first SLOT from t and WORK on that is OPEN for its OUT (that SLOT is no more of the STAY)" */
  private static void leavesInTheFirstOpenSlot() {
    // open for 101 in slots 10 and 335 alone; a works 2 slots
    String text = "section 0 200;tide 9 0;tide 10 1;tide 11 0;tide 334 0;tide 335 1;" + oneShip("10 0 101 24 0 999 0 1 2");
    runs(text).are("put 0 0 8 1 = 10", "ship 0 13 = 10", "ship 0 15 = 0", "at 9 0 = 0", "at 10 0 = -2", "lies 9 -1 = 1",
        "lies 10 -1 = 0", "free 9 0 = 290", "free 10 0 = 300");
    runs(text).are("put 0 0 7 1 = 10", "ship 0 12 = 2", "ship 0 15 = 1", "at 7 0 = 0", "at 6 0 = -2", "at 9 9 = 0",
        "at 9 10 = -2");
    runs(text).are("put 0 0 9 1 = 335", "ship 0 15 = 324", "at 334 0 = 0", "at 335 0 = -2", "left 0 10 = 12", "left 0 11 = 0");
    runs(text).are("put 0 0 333 1 = 335", "ship 0 15 = 0");
    runs(text).are("put 0 0 334 1 = -6", "put 0 0 334 2 = 335");
    runs(text).are("put 0 0 335 1 = -6", "put 0 0 335 2 = -6");
    // never open for 101
    runs("section 0 200;" + oneShip("10 0 101 24 0 999 0 1 2")).are("put 0 0 0 1 = -6");
  }

  /** "BOXES are moved by MOVES in each SLOT of WORK, the rest in its last one" */
  private static void theRestInTheLastSlot() {
    Runs rest = runs(oneShip("10 0 0 25 0 999 0 1 2"), "put 0 0 4 1 = 7");
    rest.are("left 0 0 = 25", "left 0 4 = 25", "left 0 5 = 13", "left 0 6 = 1", "left 0 7 = 0", "left 0 335 = 0",
        "shift 0 0 0 = 25", "busiest 1 = 25");
    Runs exact = runs(oneShip("10 0 0 24 0 999 0 1 2"), "put 0 0 15 1 = 17");
    exact.are("left 0 15 = 24", "left 0 16 = 12", "left 0 17 = 0", "shift 0 0 0 = 12", "shift 0 1 0 = 12", "busiest 0 = 0",
        "busiest 1 = 12");
    Runs uneven = runs(oneShip("10 0 0 25 0 999 0 1 2"), "put 0 0 15 2 = 17");
    uneven.are("left 0 16 = 1", "left 0 17 = 0", "shift 0 0 0 = 24", "shift 0 1 0 = 1");
    runs(oneShip("10 0 0 0 0 999 0 1 2"), "put 0 0 4 2 = 5").are("left 0 4 = 0", "left 0 5 = 0", "shift 0 0 0 = 0",
        "shift 0 0 1 = 2", "shift 0 0 2 = 2", "count 15 = 2", "hours 0 = 1", "hours 1 = 1");
    runs(oneShip("10 0 0 1 0 999 0 1 2"), "put 0 0 4 2 = 5").are("left 0 4 = 1", "left 0 5 = 0", "shift 0 0 0 = 1");
    runs(oneShip("10 0 0 25 0 999 0 1 2")).are("left 0 0 = 25", "left 0 335 = 25");
  }

  private static void lawOneAndTwo() {
    Runs runs = runs(oneShip("100 0 0 24 5 999 0 1 2"));
    runs.are("breaks 0 -1 5 1 = 1", "breaks 0 0 5 1 = 0", "breaks 0 200 5 1 = 0", "breaks 0 201 5 1 = 1", "put 0 -1 5 1 = -2",
        "put 0 201 5 1 = -2", "breaks 0 0 4 1 = 2", "put 0 0 4 1 = -3", "breaks 0 0 -1 1 = 2", "put 0 200 5 1 = 7");
    runs("quay 50;" + oneShip("50 0 0 24 0 999 0 1 2")).are("breaks 0 0 0 1 = 0", "breaks 0 1 0 1 = 1", "breaks 0 -1 0 1 = 1");
    runs("quay 50;" + oneShip("51 0 0 24 0 999 0 1 2")).are("breaks 0 0 0 1 = 1", "breaks 0 -1 0 1 = 1");
    runs("quay 999;" + oneShip("400 0 0 24 335 999 0 1 2")).are("breaks 0 599 335 1 = 5", "breaks 0 600 335 1 = 1",
        "breaks 0 599 334 1 = 2");
    runs(oneShip("1 0 0 24 0 999 0 1 2")).are("breaks 0 299 0 1 = 0", "breaks 0 300 0 1 = 1", "breaks 0 299 -1 1 = 2");
  }

  private static void lawThree() {
    Runs two = runs("crane 0 299;".repeat(8) + "ship a 10 0 0 24 0 999 0 2 4;ship b 10 0 0 24 0 999 0 8 8;ship c 10 0 0 24 0 9 0 1 1;");
    two.are("breaks 0 0 0 1 = 3", "breaks 0 0 0 2 = 0", "breaks 0 0 0 4 = 0", "breaks 0 0 0 5 = 3", "breaks 1 0 0 7 = 3",
        "breaks 1 0 0 8 = 0", "breaks 1 0 0 9 = 3", "breaks 2 0 0 0 = 3", "breaks 2 0 0 1 = 0", "breaks 2 0 0 2 = 3",
        "breaks 2 0 0 -1 = 3", "put 0 0 0 1 = -4", "put 0 0 0 5 = -4", "put 1 0 0 9 = -4", "put 2 0 0 0 = -4", "put 0 0 0 4 = 1");
  }

  private static void lawFourAndFive() {
    // open for 101 in slots 10 to 12 and 335 alone
    String tide = "section 0 200;tide 9 0;tide 10 1;tide 12 1;tide 13 0;tide 334 0;tide 335 1;";
    Runs in = runs(tide + oneShip("10 101 0 12 0 999 0 1 2"));
    in.are("breaks 0 0 9 1 = 4", "breaks 0 0 10 1 = 0", "breaks 0 0 12 1 = 0", "breaks 0 0 13 1 = 4", "breaks 0 0 334 1 = 4",
        "breaks 0 0 335 1 = 5", "breaks 0 0 336 1 = 4", "put 0 0 9 1 = -5", "put 0 0 336 1 = -5", "put 0 0 335 1 = -6",
        "put 0 0 12 1 = 13");
    Runs out = runs(tide + oneShip("10 0 101 12 0 999 0 1 2"));
    out.are("breaks 0 0 334 1 = 0", "breaks 0 0 335 1 = 5", "breaks 0 0 336 1 = 4", "put 0 0 334 1 = 335");
    runs(oneShip("10 100 0 12 0 999 0 1 2")).are("breaks 0 0 0 1 = 0", "breaks 0 0 334 1 = 0", "breaks 0 0 335 1 = 5");
    runs(oneShip("10 101 0 12 0 999 0 1 2")).are("breaks 0 0 0 1 = 4");
    // shut in the last slot: it has to leave in 334
    runs("section 0 200;tide 334 1;tide 335 0;" + oneShip("10 0 101 12 0 999 0 1 2")).are("breaks 0 0 333 1 = 0",
        "breaks 0 0 334 1 = 5", "put 0 0 333 1 = 334");
  }

  /** "in each SLOT of it the least DEPTH of its metres and LEVEL are KEEL and the greater of DRAFT and OUT at least" */
  private static void lawSix() {
    for (String waters : new String[] {"100 50", "50 100", "100 100"}) {
      String ship = oneShip("10 " + waters + " 12 0 999 0 1 2");
      runs("channel 300;section 0 100;" + ship).are("breaks 0 0 0 1 = 0");
      runs("channel 300;section 0 99;" + ship).are("breaks 0 0 0 1 = 6", "put 0 0 0 1 = -7");
      runs("channel 300;keel 7;section 0 107;" + ship).are("breaks 0 0 0 1 = 0");
      runs("channel 300;keel 7;section 0 106;" + ship).are("breaks 0 0 0 1 = 6");
      runs("channel 300;keel 7;section 0 100;tide 0 7;" + ship).are("breaks 0 0 0 1 = 0");
      runs("channel 300;keel 7;section 0 100;tide 0 6;" + ship).are("breaks 0 0 0 1 = 6");
      // one metre of it alone is too shallow
      runs("channel 300;section 10 99;section 11 100;" + ship).are("breaks 0 0 0 1 = 0", "breaks 0 1 0 1 = 6",
          "breaks 0 10 0 1 = 6", "breaks 0 11 0 1 = 0");
    }
    // level 1 up to slot 9 and from slot 11 on, 0 in slot 10; it needs 101 and works 2 slots
    Runs slots = runs("channel 300;section 0 100;tide 9 1;tide 10 0;tide 11 1;" + oneShip("10 101 0 24 0 999 0 1 2"));
    slots.are("breaks 0 0 8 1 = 0", "breaks 0 0 9 1 = 6", "breaks 0 0 10 1 = 6", "breaks 0 0 11 1 = 0", "breaks 0 0 9 2 = 0");
    // it waits for the tide: open for its 110 out in slot 20 alone, level 0 in slots 0 to 19, depth 110 and 109
    String tide = "tide 19 0;tide 20 10;tide 21 0;";
    runs("section 0 110;" + tide + oneShip("10 0 110 12 0 999 0 1 2")).are("breaks 0 0 15 1 = 0");
    runs("section 0 109;" + tide + oneShip("10 0 110 12 0 999 0 1 2")).are("breaks 0 0 15 1 = 6", "breaks 0 0 19 1 = 6");
    // the slot in which it leaves is no more of it: level 1, which it needs, up to slot 5
    runs("channel 300;section 0 100;tide 5 1;tide 6 0;" + oneShip("10 101 0 12 0 999 0 1 2")).are("breaks 0 0 5 1 = 0",
        "put 0 0 5 1 = 6", "slack 0 = 0");
  }

  /** "a metre less than GAP and 1 from one of its own" */
  private static void lawSevenAlongTheQuay() {
    for (int gap : new int[] {0, 1, 2, 49, 50}) {
      Runs runs = runs("gap " + gap + ";crane 0 299;crane 0 299;ship a 10 0 0 12 0 0 0 1 1;ship b 20 0 0 12 0 0 0 1 1;",
          "put 0 100 5 1 = 6");
      // a at 100 to 109, b has 20 metres
      runs.are("breaks 1 " + (109 + gap) + " 5 1 = 7", "breaks 1 " + (110 + gap) + " 5 1 = 0", "breaks 1 " + (81 - gap) + " 5 1 = 7",
          "breaks 1 " + (80 - gap) + " 5 1 = 0", "breaks 1 100 5 1 = 7", "breaks 1 90 5 1 = 7",
          "inWay 1 " + (109 + gap) + " 5 1 = 1", "inWay 1 " + (110 + gap) + " 5 1 = 0", "inWay 1 " + (81 - gap) + " 5 1 = 1",
          "inWay 1 " + (80 - gap) + " 5 1 = 0", "put 1 " + (109 + gap) + " 5 1 = -8", "put 1 " + (81 - gap) + " 5 1 = -8",
          "put 1 " + (110 + gap) + " 5 1 = 6", "away 1 = 1", "put 1 " + (80 - gap) + " 5 1 = 6");
    }
  }

  /** "no other SHIP's STAY has a SLOT in common with it" */
  private static void lawSevenInTime() {
    // a lies in slots 5 to 9: it works in 5 and 6, and waits for the tide of slot 10; b works 2 slots
    Runs runs = runs("section 0 200;crane 0 299;crane 0 299;tide 9 0;tide 10 1;tide 11 0;ship a 10 0 101 24 0 0 0 1 1;"
        + "ship b 10 0 0 24 0 0 0 1 1;", "put 0 100 5 1 = 10");
    runs.are("breaks 1 100 3 1 = 0", "breaks 1 100 4 1 = 7", "breaks 1 100 9 1 = 7", "breaks 1 100 10 1 = 0",
        "inWay 1 100 3 1 = 0", "inWay 1 100 4 1 = 1", "inWay 1 100 9 1 = 1", "inWay 1 100 10 1 = 0", "put 1 100 4 1 = -8",
        "put 1 100 9 1 = -8", "put 1 100 10 1 = 12", "meet 0 1 = 0", "away 1 = 1", "put 1 100 3 1 = 5", "meet 0 1 = 0",
        "away 1 = 1", "put 1 110 4 1 = 6", "meet 0 1 = 1", "meet 1 0 = 1");
  }

  /** "in each SLOT of its WORK cranes at work, all together, are not above GANGS" */
  private static void lawEight() {
    String cranes = "crane 0 299;".repeat(4);
    String ships = "ship a 10 0 0 24 0 0 0 1 4;ship b 10 0 0 24 0 0 0 1 4;";
    runs(cranes + ships, "put 0 0 5 2 = 6").are("breaks 1 50 5 2 = 0", "breaks 1 50 5 3 = 8", "breaks 1 50 5 4 = 8",
        "breaks 1 50 4 4 = 0", "breaks 1 50 6 4 = 0", "put 1 50 5 3 = -9", "put 1 50 5 2 = 6");
    // shift 1 of day 0 is slots 16 to 31
    Runs told = runs("gangs 0 1 1;" + cranes + ships);
    told.are("breaks 0 0 15 2 = 0", "breaks 0 0 16 2 = 8", "breaks 0 0 31 2 = 8", "breaks 0 0 32 2 = 0", "breaks 0 0 14 1 = 0",
        "breaks 0 0 16 1 = 0", "breaks 0 0 30 1 = 0");
    runs("gangs 0 1 0;" + cranes + ships).are("breaks 0 0 14 1 = 0", "breaks 0 0 15 1 = 8", "breaks 0 0 31 1 = 8",
        "breaks 0 0 32 1 = 0");
    // day 6, shift 2 is slots 320 to 335
    runs("gangs 6 2 1;" + cranes + ships).are("breaks 0 0 319 2 = 0", "breaks 0 0 320 2 = 8", "breaks 0 0 334 2 = 8",
        "breaks 0 0 334 1 = 5", "breaks 0 0 333 1 = 0");
    // nine gangs do not make more cranes
    runs("gangs 0 0 9;crane 0 299;" + ships).are("breaks 0 0 0 2 = 9", "breaks 0 0 0 1 = 0");
    // a waits for the tide, but works no more
    Runs waits = runs("section 0 200;crane 0 299;tide 9 0;tide 10 1;tide 11 0;ship a 10 0 101 24 0 0 0 1 1;"
        + "ship b 10 0 0 24 0 0 0 1 1;", "put 0 100 5 1 = 10");
    waits.are("breaks 1 0 6 1 = 8", "breaks 1 0 7 1 = 0", "breaks 1 0 4 1 = 8", "breaks 1 0 3 1 = 0");
  }

  /** "those of which a metre (from its first to its last) is one of the SHIP's, till it has its k" */
  private static void lawNine() {
    runs("crane 30 40;ship a 10 0 0 12 0 0 0 1 1;").are("breaks 0 20 0 1 = 9", "breaks 0 21 0 1 = 0", "breaks 0 40 0 1 = 0",
        "breaks 0 41 0 1 = 9", "put 0 20 0 1 = -10", "put 0 41 0 1 = -10", "put 0 21 0 1 = 1");
    runs("crane 0 0;ship a 1 0 0 12 0 0 0 1 1;").are("breaks 0 0 0 1 = 0", "breaks 0 1 0 1 = 9");
    runs("crane 299 999;ship a 1 0 0 12 0 0 0 1 1;").are("breaks 0 299 0 1 = 0", "breaks 0 298 0 1 = 9");
    runs("crane 300 999;ship a 1 0 0 12 0 0 0 1 1;").are("breaks 0 299 0 1 = 9");
    runs("crane 0 299;".repeat(8) + "ship a 10 0 0 12 0 0 0 8 8;").are("breaks 0 0 0 8 = 0", "put 0 0 0 8 = 1", "works 7 0 = 0",
        "without 0 = 1");
    runs("gangs 0 0 9;" + "crane 0 299;".repeat(7) + "ship a 10 0 0 12 0 0 0 8 8;").are("breaks 0 0 0 8 = 9");
    // "one that is passed over is not taken any more": a at 0 passes crane 0 over and takes crane 1
    Runs passed = runs("crane 100 299;crane 0 99;ship a 10 0 0 24 0 0 0 1 1;ship b 10 0 0 24 0 0 0 1 1;", "put 0 0 5 1 = 7");
    passed.are("breaks 1 200 3 1 = 0", "breaks 1 200 4 1 = 9", "breaks 1 200 6 1 = 9", "breaks 1 200 7 1 = 0",
        "works 0 5 = -2", "works 1 5 = 0");
    // by x, not by number: b ahead of a takes crane 0, a crane 1
    runs("crane 0 299;crane 50 299;ship a 10 0 0 12 0 0 0 1 1;ship b 10 0 0 12 0 0 0 1 1;", "put 0 60 0 1 = 1").are(
        "works 0 0 = 0", "works 1 0 = -2", "put 1 0 0 1 = 1", "works 0 0 = 1", "works 1 0 = 0");
    // the other way round the second one would have none
    runs("crane 50 299;crane 0 299;ship a 10 0 0 12 0 0 0 1 1;ship b 10 0 0 12 0 0 0 1 1;", "put 0 60 0 1 = 1").are(
        "works 0 0 = 0", "put 1 0 0 1 = -10", "put 1 70 0 1 = 1", "works 1 0 = 1");
  }

  /** "Of several reasons NONE comes first, then -2, and so on": each LAW, those behind it being broken as well. */
  private static void firstLawThatIsBroken() {
    // b lies at 0 to 99 in slots 10 to 19; one gang; a needs 101 at 100 metres' depth, and two cranes that are not there
    Runs runs = runs("quay 120;gap 5;gangs 0 0 1;gangs 0 1 1;crane 0 50;tide 5 0;tide 6 30;tide 30 30;tide 31 0;"
        + "ship a 20 101 0 24 4 0 0 2 3;ship b 100 0 0 120 0 0 0 1 1;ship c 20 0 101 24 4 0 0 2 3;ship d 20 130 0 24 4 0 0 2 3;",
        "put 1 0 10 1 = 20");
    runs.are("breaks 0 101 3 1 = 1", "breaks 0 -1 336 4 = 1", "breaks 0 90 3 1 = 2", "breaks 0 90 -1 1 = 2",
        "breaks 0 90 336 1 = 3", "breaks 0 90 5 4 = 3", "breaks 0 90 5 2 = 4", "breaks 0 90 31 2 = 4", "breaks 0 90 336 2 = 4");
    runs.are("put 0 101 3 1 = -2", "put 0 90 3 1 = -3", "put 0 90 5 1 = -4", "put 0 90 5 2 = -5");
    // c can't leave from slot 31 on
    runs.are("breaks 2 90 30 2 = 5", "put 2 90 30 2 = -6", "breaks 2 0 335 2 = 5");
    Runs shallow = runs("quay 120;gap 5;gangs 0 0 1;gangs 0 1 1;crane 0 50;section 0 80;tide 5 0;tide 6 30;tide 30 30;"
        + "tide 31 0;ship a 20 111 0 24 4 0 0 2 3;ship b 100 0 0 120 0 0 0 1 1;ship c 20 110 0 24 4 0 0 2 3;", "put 1 0 10 1 = 20");
    // 80 and 30 are 110: too shallow for a, not for c
    shallow.are("breaks 0 90 12 2 = 6", "put 0 90 12 2 = -7", "inWay 0 90 12 2 = 2", "breaks 2 90 12 2 = 7", "put 2 90 12 2 = -8",
        "breaks 2 90 20 2 = 8", "put 2 90 20 2 = -9", "breaks 2 0 20 2 = 8");
    runs("gangs 0 0 2;crane 0 50;ship a 20 0 0 24 0 0 0 2 3;").are("breaks 0 0 0 3 = 8", "breaks 0 0 0 2 = 9", "put 0 0 0 2 = -10");
    // by NONE first: it has one
    runs.are("put 1 -1 -1 9 = -1", "put 1 0 10 1 = -1", "itself 1 = -1");
  }

  /** "the least x that is a whole number of tens" */
  private static void wholeNumbersOfTens() {
    runs("quay 100;section 5 101;" + oneShip("91 0 101 12 0 0 0 1 2") + "channel 300;").are("breaks 0 5 0 1 = 0",
        "breaks 0 9 0 1 = 0", "breaks 0 10 0 1 = 1", "earliest 0 1 0 = -2", "places 0 0 1 -1 = 0", "itself 0 = -2",
        "hopeless = 1");
    runs("quay 100;section 5 101;" + oneShip("90 0 101 12 0 0 0 1 2") + "channel 300;").are("earliest 0 1 0 = 0",
        "earliest 0 1 1 = 10", "earliest 0 1 2 = 1", "places 0 0 1 -1 = 1", "places 0 0 1 0 = 10", "places 0 0 1 1 = -2",
        "hopeless = 0", "itself 0 = 0", "ship 0 9 = 10");
    runs("quay 999;crane 998 999;ship a 9 0 0 12 0 0 0 1 1;").are("earliest 0 1 1 = 990", "places 0 0 1 -1 = 1",
        "places 0 0 1 0 = 990");
    runs("quay 999;crane 998 999;ship a 10 0 0 12 0 0 0 1 1;").are("earliest 0 1 1 = -2", "places 0 0 1 -1 = 0");
    runs("quay 999;crane 0 999;ship a 9 0 0 12 0 0 0 1 1;ship b 10 0 0 12 0 0 0 1 1;").are("places 0 0 1 -1 = 100",
        "places 0 0 1 99 = 990", "places 0 0 1 100 = -2", "places 1 0 1 -1 = 99", "places 1 0 1 98 = 980", "places 1 0 1 99 = -2");
    // beside another one that lies at no whole number of tens: a at 1 to 10, b from 20 on, gap 0
    runs("crane 0 299;crane 0 299;ship a 10 0 0 12 0 0 0 1 1;ship b 10 0 0 12 0 0 0 1 1;", "put 0 1 0 1 = 1").are(
        "earliest 1 1 1 = 20", "places 1 0 1 0 = 20");
    runs("crane 0 299;crane 0 299;ship a 10 0 0 12 0 0 0 1 1;ship b 10 0 0 12 0 0 0 1 1;", "put 0 0 0 1 = 1").are(
        "earliest 1 1 1 = 10", "places 1 0 1 0 = 10");
    runs("gap 9;crane 0 299;crane 0 299;ship a 11 0 0 12 0 0 0 1 1;ship b 10 0 0 12 0 0 0 1 1;", "put 0 0 0 1 = 1").are(
        "earliest 1 1 1 = 20");
    runs("gap 10;crane 0 299;crane 0 299;ship a 11 0 0 12 0 0 0 1 1;ship b 10 0 0 12 0 0 0 1 1;", "put 0 0 0 1 = 1").are(
        "earliest 1 1 1 = 30");
  }

  /** "the least t, then the least x" */
  private static void leastSlotAheadOfLeastMetre() {
    // the quay's first 50 metres are deep enough from slot 3 on, the others always
    Runs runs = runs("channel 300;section 0 90;section 50 100;tide 2 0;tide 3 10;" + oneShip("20 100 0 12 0 0 0 1 2"));
    runs.are("earliest 0 1 0 = 0", "earliest 0 1 1 = 50", "earliest 0 1 2 = 1", "breaks 0 0 3 1 = 0", "breaks 0 0 2 1 = 6");
    runs(oneShip("20 0 0 12 334 0 0 1 2")).are("earliest 0 1 0 = 334", "earliest 0 1 2 = 335");
    runs(oneShip("20 0 0 12 335 0 0 1 2")).are("earliest 0 1 0 = -2", "earliest 0 1 1 = -2", "earliest 0 1 2 = -2", "itself 0 = -2",
        "hopeless = 1");
    runs(oneShip("20 0 0 4020 0 0 0 1 2")).are("earliest 0 1 2 = 335", "earliest 0 1 0 = 0");
    runs(oneShip("20 0 0 4021 0 0 0 1 2")).are("earliest 0 1 0 = -2", "earliest 0 2 0 = 0");
  }

  /** "with MOST; if there is none, one less, and so on, down to LEAST" */
  private static void byItselfDownToLeast() {
    String three = "crane 0 299;crane 0 299;crane 0 299;";
    runs(three + "ship a 10 0 0 12 0 0 0 3 8;").are("itself 0 = 0", "ship 0 11 = 3");
    runs(three + "ship a 10 0 0 12 0 0 0 4 8;").are("itself 0 = -2", "hopeless = 1");
    runs(three + "ship a 10 0 0 12 0 0 0 1 2;").are("itself 0 = 0", "ship 0 11 = 2");
    runs(three + "ship a 10 0 0 12 0 0 0 1 1;").are("itself 0 = 0", "ship 0 11 = 1");
    // on day 0 there are two gangs: most cranes come first, however late
    runs(three + "gangs 0 0 2;gangs 0 1 2;gangs 0 2 2;ship a 10 0 0 12 0 0 0 1 3;").are("itself 0 = 48", "ship 0 11 = 3");
    runs(three + "ship a 10 0 0 12 333 0 0 1 8;").are("itself 0 = 333", "ship 0 11 = 3", "ship 0 13 = 334");
    // 100 boxes take 3 slots with three cranes, 5 with two, 9 with one: from slot 332 on three alone have the time
    runs(three + "ship a 10 0 0 100 332 0 0 1 2;ship b 10 0 0 100 332 0 0 1 3;ship c 10 0 0 100 333 0 0 1 3;").are("itself 0 = -2",
        "itself 1 = 332", "ship 1 13 = 335", "away 1 = 1", "itself 2 = -2", "hopeless = 5");
  }

  /** "LATE: that SLOT less DUE, 0 at least. COST: LATE times 8, 4, 2, 1 by RANK 0 to 3" */
  private static void lateAndCost() {
    int[] times = {8, 4, 2, 1};
    for (int rank = 0; rank < 4; rank++) {
      for (int due : new int[] {0, 11, 12, 13, 999}) {
        int late = due < 12 ? 12 - due : 0;
        runs(oneShip("10 0 0 24 3 " + due + " " + rank + " 1 2"), "put 0 0 10 1 = 12").are("ship 0 14 = 7", "ship 0 15 = 0",
            "ship 0 16 = " + late, "ship 0 17 = " + late * times[rank], "count 14 = " + late * times[rank],
            "rank " + rank + " 0 = 1", "rank " + rank + " 1 = 1", "rank " + rank + " 2 = " + late, "rank " + rank + " 3 = " + late,
            "rank " + rank + " 4 = " + late * times[rank], "rank " + (rank + 1) % 4 + " 0 = 0", "rank " + (rank + 1) % 4 + " 4 = 0");
      }
    }
    runs(oneShip("10 0 0 24 3 0 0 1 2"), "put 0 0 3 1 = 5").are("ship 0 14 = 0");
    runs(oneShip("10 0 0 24 0 0 0 1 2"), "put 0 0 333 1 = 335").are("ship 0 14 = 333", "ship 0 16 = 335", "ship 0 17 = 2680");
  }
}
