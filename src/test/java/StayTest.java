/** Promises 18 to 30: breaks, inWay, earliest, put, itself, away, move, swap, squeeze, places, hopeless, slack, along. */
public final class StayTest {
  private static final Check CHECK = new Check();
  private static final int MAX = Integer.MAX_VALUE;
  private static final int MIN = Integer.MIN_VALUE;

  /**
   * LEVEL is 10 and the slot up to slot 20, 50 less the slot up to slot 40, then 10. The channel is open for b's
   * 100 in slots 4 to 36, for 104 in slots 8 to 32. One crane moves 12, two move 24.
   */
  private static final String HARBOUR = "quay 200;gap 5;keel 4;channel 90;section 0 95;section 100 120;"
      + "crane 0 120;crane 80 199;tide 0 10;tide 20 30;tide 40 10;gangs 0 1 1;"
      + "ship a 50 80 70 48 2 20 0 1 2;ship b 60 100 104 24 0 30 1 1 1;ship c 30 50 50 12 0 40 2 1 2;"
      + "ship d 40 60 104 5 0 40 3 1 1;ship e 200 0 0 0 0 0 3 1 8;ship f 201 0 0 0 0 0 3 1 1;";
  private static final int A = 0;
  private static final int B = 1;
  private static final int C = 2;
  private static final int D = 3;
  private static final int E = 4;
  private static final int F = 5;

  public static void main(String[] args) {
    lawsOfOneShip();
    lawsOfDepth();
    lawOfLying();
    lawOfGangs();
    lawOfCranes();
    cranesDoNotPass();
    shipsInTheWay();
    earliestPlaces();
    earliestBesideOthers();
    putting();
    byItself();
    takingAway();
    moving();
    swapping();
    swappingRefused();
    squeezing();
    squeezingInTurn();
    placesByTens();
    hopelessShips();
    slackOfShips();
    alongTheQuay();
    CHECK.end();
  }

  private static void lawsOfOneShip() {
    QuayBerths quay = Check.told(HARBOUR);
    CHECK.due("no such ship", quay.breaks(-1, 0, 0, 1), -1);
    CHECK.due("no such ship", quay.breaks(6, 0, 0, 1), -1);
    CHECK.due("no law", quay.breaks(A, 0, 2, 1), 0);
    CHECK.due("law 1", quay.breaks(A, -1, 2, 1), 1);
    CHECK.due("the last metre", quay.breaks(A, 150, 2, 1), 0);
    CHECK.due("law 1", quay.breaks(A, 151, 2, 1), 1);
    CHECK.due("law 1", quay.breaks(A, MAX, MIN, 0), 1);
    CHECK.due("law 1", quay.breaks(A, MIN, 0, 0), 1);
    CHECK.due("the whole quay", quay.breaks(E, 0, 0, 1), 0);
    CHECK.due("longer than the quay", quay.breaks(F, 0, 0, 1), 1);
    CHECK.due("law 2", quay.breaks(A, 0, 1, 0), 2);
    CHECK.due("law 2", quay.breaks(A, 0, MIN, 1), 2);
    CHECK.due("law 3", quay.breaks(A, 0, 2, 0), 3);
    CHECK.due("law 3", quay.breaks(A, 0, 2, 3), 3);
    CHECK.due("law 3", quay.breaks(A, 0, 400, MAX), 3);
    CHECK.due("law 4", quay.breaks(B, 0, 3, 1), 4);
    CHECK.due("law 4", quay.breaks(B, 0, 37, 1), 4);
    CHECK.due("no law", quay.breaks(B, 0, 4, 1), 0);
    CHECK.due("slot 336", quay.breaks(A, 0, 336, 1), 4);
    CHECK.due("a far slot", quay.breaks(A, 0, MAX, 1), 4);
    CHECK.due("it leaves in 32", quay.breaks(B, 0, 30, 1), 0);
    CHECK.due("law 5: from 33 on it is shut", quay.breaks(B, 0, 31, 1), 5);
    CHECK.due("it leaves in 335", quay.breaks(A, 0, 331, 1), 0);
    CHECK.due("law 5: it would leave in 336", quay.breaks(A, 0, 332, 1), 5);
    CHECK.due("with two cranes it leaves in 335", quay.breaks(A, 80, 333, 2), 0);
  }

  private static void lawsOfDepth() {
    QuayBerths quay = Check.told(HARBOUR);
    // d needs 4 and 104; at metres 0 to 99 that is a level of 13; it leaves in slot 8
    CHECK.due("law 6", quay.breaks(D, 0, 2, 1), 6);
    CHECK.due("no law", quay.breaks(D, 0, 3, 1), 0);
    CHECK.due("one metre too shallow", quay.breaks(D, 99, 2, 1), 6);
    CHECK.due("deep enough", quay.breaks(D, 100, 2, 1), 0);
    CHECK.due("its last metre is deep enough only", quay.breaks(D, 61, 0, 1), 6);
    QuayBerths edges = Check.told("section 0 100;section 30 99;section 40 100;section 70 99;crane 0 299;"
        + "ship a 30 100 100 12 0 99 0 1 1;");
    CHECK.due("up to metre 69", edges.breaks(0, 40, 0, 1), 0);
    CHECK.due("up to metre 70", edges.breaks(0, 41, 0, 1), 6);
    CHECK.due("from metre 39 on", edges.breaks(0, 39, 0, 1), 6);
    CHECK.due("up to metre 29", edges.breaks(0, 0, 0, 1), 0);
    CHECK.due("up to metre 30", edges.breaks(0, 1, 0, 1), 6);
    QuayBerths falling = Check.told("channel 200;section 0 100;crane 0 99;tide 0 50;tide 10 40;"
        + "ship a 10 140 0 60 0 99 0 1 1;ship b 10 0 141 108 0 99 0 1 1;");
    // a lies in 5 slots, b in 9
    CHECK.due("the least level is 40", falling.breaks(0, 0, 100, 1), 0);
    CHECK.due("b: level 42 in its last slot", falling.breaks(1, 0, 0, 1), 0);
    CHECK.due("b: level 41 in its last slot", falling.breaks(1, 0, 1, 1), 0);
    CHECK.due("b: level 40 in its last slot", falling.breaks(1, 0, 2, 1), 6);
  }

  private static void lawOfLying() {
    QuayBerths quay = Check.told(HARBOUR);
    CHECK.due("a at 50 to 99 in slots 2 to 5", quay.put(A, 50, 2, 1), 6);
    CHECK.due("5 metres behind it", quay.breaks(C, 104, 3, 1), 7);
    CHECK.due("6 metres behind it", quay.breaks(C, 105, 3, 1), 0);
    CHECK.due("5 metres ahead", quay.breaks(C, 16, 3, 1), 7);
    CHECK.due("6 metres ahead", quay.breaks(C, 15, 3, 1), 0);
    CHECK.due("where it lies", quay.breaks(C, 60, 5, 1), 7);
    CHECK.due("when it has left", quay.breaks(C, 60, 6, 1), 0);
    CHECK.due("before it comes", quay.breaks(C, 60, 1, 1), 0);
    CHECK.due("till it comes, and on", quay.breaks(E, 0, 1, 1), 0);
    CHECK.due("its own stay is not counted", quay.breaks(A, 60, 3, 1), 0);
    CHECK.due("it lies there still", quay.ship(A, 9), 50);
    CHECK.due("with its cranes", quay.count(15), 4);
    // d works in slot 3, but lies there up to slot 7
    CHECK.due("put d", quay.put(D, 160, 3, 1), 8);
    CHECK.due("in the way though it does not work", quay.breaks(C, 160, 7, 1), 7);
    CHECK.due("when it has left", quay.breaks(C, 160, 8, 1), 0);
    QuayBerths tight = Check.told("crane 0 9;crane 0 299;ship a 10 0 0 0 0 0 0 1 1;ship b 10 0 0 0 0 0 0 1 1;");
    tight.put(0, 20, 0, 1);
    CHECK.due("without a gap", tight.breaks(1, 29, 0, 1), 7);
    CHECK.due("beside it, where it would take the crane of the other", tight.breaks(1, 10, 0, 1), 9);
    CHECK.due("beside it", tight.breaks(1, 0, 0, 1), 0);
  }

  private static void lawOfGangs() {
    QuayBerths quay = Check.told(HARBOUR);
    CHECK.due("two gangs in slot 15", quay.breaks(C, 80, 15, 2), 0);
    CHECK.due("one gang in slot 16", quay.breaks(C, 80, 16, 2), 8);
    CHECK.due("one gang for one crane", quay.breaks(C, 80, 16, 1), 0);
    CHECK.due("one gang in slot 31", quay.breaks(C, 80, 31, 2), 8);
    CHECK.due("two gangs in slot 32", quay.breaks(C, 80, 32, 2), 0);
    CHECK.due("a works in 15 and 16", quay.breaks(A, 80, 15, 2), 8);
    CHECK.due("a works in 14 and 15", quay.breaks(A, 80, 14, 2), 0);
    CHECK.due("put a", quay.put(A, 80, 10, 2), 12);
    CHECK.due("three cranes, two gangs", quay.breaks(C, 0, 11, 1), 8);
    CHECK.due("a works no more", quay.breaks(C, 0, 12, 1), 0);
    CHECK.due("its own cranes are not counted", quay.breaks(A, 80, 11, 2), 0);
  }

  private static void lawOfCranes() {
    QuayBerths quay = Check.told(HARBOUR);
    CHECK.due("one crane reaches", quay.breaks(C, 50, 0, 2), 9);
    CHECK.due("the second one reaches a metre", quay.breaks(C, 51, 0, 2), 0);
    CHECK.due("the first one's last metre", quay.breaks(C, 120, 0, 2), 0);
    CHECK.due("one crane reaches", quay.breaks(C, 121, 0, 2), 9);
    QuayBerths none = Check.told("gangs 0 0 9;ship a 10 0 0 0 0 0 0 1 1;");
    CHECK.due("gangs without a crane", none.breaks(0, 0, 0, 1), 9);
    CHECK.due("neither", none.breaks(0, 0, 16, 1), 8);
    QuayBerths far = Check.told("quay 100;crane 100 999;ship a 100 0 0 0 0 0 0 1 1;");
    CHECK.due("a crane behind the quay", far.breaks(0, 0, 0, 1), 9);
  }

  private static void cranesDoNotPass() {
    QuayBerths quay = Check.told("crane 100 299;crane 0 50;crane 0 299;ship a 10 0 0 60 0 0 0 1 1;ship b 10 0 0 60 0 0 0 1 2;"
        + "ship c 10 0 0 60 0 0 0 1 1;");
    // a takes crane 1 and passes crane 0 over: b gets crane 2, nobody else gets one
    CHECK.due("put a", quay.put(0, 0, 10, 1), 15);
    CHECK.due("crane 0 is passed over", quay.breaks(1, 200, 10, 2), 9);
    CHECK.due("crane 2 is left", quay.breaks(1, 200, 10, 1), 0);
    CHECK.due("put b", quay.put(1, 200, 12, 1), 17);
    CHECK.due("none is left", quay.breaks(2, 250, 8, 1), 9);
    CHECK.due("c works up to slot 11, then b comes", quay.breaks(2, 250, 7, 1), 0);
    CHECK.due("a is gone in slot 15", quay.breaks(2, 250, 15, 1), 0);
    CHECK.due("c ahead of b takes its crane", quay.breaks(2, 150, 14, 1), 9);
    QuayBerths later = Check.told("crane 0 99;crane 50 299;ship a 20 0 0 120 0 0 0 1 1;ship b 20 0 0 12 0 0 0 1 1;");
    CHECK.due("a takes crane 0 from slot 5 on", later.put(0, 80, 5, 1), 15);
    CHECK.due("b ahead of it takes crane 0, a crane 1", later.breaks(1, 40, 7, 1), 0);
    CHECK.due("b behind it takes crane 1", later.breaks(1, 100, 7, 1), 0);
    CHECK.due("put b", later.put(1, 40, 7, 1), 8);
    CHECK.due("a works on crane 0", later.works(0, 6), 0);
    CHECK.due("b works on it", later.works(0, 7), 1);
    CHECK.due("a works on crane 1", later.works(1, 7), 0);
  }

  private static void shipsInTheWay() {
    QuayBerths quay = Check.told(HARBOUR);
    quay.put(A, 50, 2, 1);
    quay.put(C, 0, 3, 1);
    CHECK.due("no such ship", quay.inWay(6, 0, 0, 1), -1);
    CHECK.due("no such ship", quay.inWay(-1, 0, 0, 1), -1);
    CHECK.due("both", quay.inWay(E, 0, 3, 1), 1 << A | 1 << C);
    CHECK.due("a alone", quay.inWay(E, 0, 2, 1), 1 << A);
    CHECK.due("nobody", quay.inWay(E, 0, 6, 1), 0);
    CHECK.due("itself is not counted", quay.inWay(A, 30, 3, 2), 1 << C);
    CHECK.due("too shallow, too", quay.inWay(D, 30, 2, 1), 1 << A | 1 << C);
    CHECK.due("no gang, too", quay.inWay(E, 0, 3, 8), 1 << A | 1 << C);
    CHECK.due("law 1", quay.inWay(E, 1, 3, 1), 0);
    CHECK.due("law 2", quay.inWay(A, 0, 1, 1), 0);
    CHECK.due("law 3", quay.inWay(B, 0, 4, 2), 0);
    CHECK.due("law 4", quay.inWay(B, 0, 3, 1), 0);
    CHECK.due("law 5", quay.inWay(E, 0, 335, 1), 0);
    CHECK.due("a far slot", quay.inWay(E, 0, MAX, 1), 0);
    CHECK.due("the gap", quay.inWay(B, 104, 4, 1), 1 << A);
    CHECK.due("behind the gap", quay.inWay(B, 105, 4, 1), 0);
  }

  private static void earliestPlaces() {
    QuayBerths quay = Check.told(HARBOUR);
    CHECK.due("b's slot", quay.earliest(B, 1, 0), 4);
    CHECK.due("b's metre", quay.earliest(B, 1, 1), 0);
    CHECK.due("b leaves", quay.earliest(B, 1, 2), 8);
    CHECK.due("d's slot: in 0 it is deep enough from 100 on", quay.earliest(D, 1, 0), 0);
    CHECK.due("d's metre", quay.earliest(D, 1, 1), 100);
    CHECK.due("a with two cranes", quay.earliest(A, 2, 1), 40);
    CHECK.due("from its slot on", quay.earliest(A, 2, 0), 2);
    CHECK.due("c with two cranes: 51 is no whole ten", quay.earliest(C, 2, 1), 60);
    CHECK.due("below least or above most", quay.earliest(B, 2, 0), -2);
    CHECK.due("too long", quay.earliest(F, 1, 1), -2);
    CHECK.due("too many cranes", quay.earliest(E, 3, 0), -2);
    CHECK.due("k 0", quay.earliest(A, 0, 0), -1);
    CHECK.due("k 9", quay.earliest(A, 9, 0), -1);
    CHECK.due("k 8", quay.earliest(A, 8, 0), -2);
    CHECK.due("what 3", quay.earliest(A, 1, 3), -1);
    CHECK.due("what -1", quay.earliest(A, 1, -1), -1);
    CHECK.due("no such ship", quay.earliest(6, 1, 0), -1);
    CHECK.due("no such ship", quay.earliest(-1, 1, 0), -1);
    CHECK.due("nothing has changed", quay.count(10), 0);
    CHECK.due("the least depth of its metres", Check.told("section 0 100;section 29 99;section 41 100;section 80 99;"
        + "section 81 100;crane 0 299;ship a 30 100 100 12 0 99 0 1 1;").earliest(0, 1, 1), 50);
    CHECK.due("a metre behind its own does not count", Check.told("section 0 100;section 30 99;crane 0 299;"
        + "ship a 30 100 100 12 0 99 0 1 1;").earliest(0, 1, 1), 0);
    CHECK.due("a crane at its last metre", Check.told("crane 29 29;ship a 10 0 0 12 0 99 0 1 1;").earliest(0, 1, 1), 20);
    CHECK.due("a crane behind its last metre", Check.told("crane 30 30;ship a 10 0 0 12 0 99 0 1 1;").earliest(0, 1, 1), 30);
    CHECK.due("a crane at metre 991", Check.told("quay 999;crane 991 998;ship a 9 0 0 12 0 99 0 1 1;").earliest(0, 1, 1), 990);
    CHECK.due("the last slots", Check.told("crane 0 9;ship a 10 0 0 12 334 0 0 1 1;").earliest(0, 1, 0), 334);
    CHECK.due("one slot too late", Check.told("crane 0 9;ship a 10 0 0 12 335 0 0 1 1;").earliest(0, 1, 0), -2);
  }

  private static void earliestBesideOthers() {
    QuayBerths quay = Check.told(HARBOUR);
    CHECK.due("put a", quay.put(A, 5, 2, 1), 6);
    // b is 60 long, the gap 5: behind a's metre 54 from 60 on
    CHECK.due("b's slot", quay.earliest(B, 1, 0), 4);
    CHECK.due("b's metre", quay.earliest(B, 1, 1), 60);
    CHECK.due("its own stay is not counted", quay.earliest(A, 1, 1), 0);
    CHECK.due("the stay is as it was", quay.ship(A, 9), 5);
    CHECK.due("e has to wait or to be first", quay.earliest(E, 1, 0), 0);
    CHECK.due("put c", quay.put(C, 100, 0, 1), 1);
    CHECK.due("e in slot 1", quay.earliest(E, 1, 0), 1);
    CHECK.due("put d", quay.put(D, 100, 0, 1), -8);
    CHECK.due("put d", quay.put(D, 160, 0, 1), 8);
    CHECK.due("e behind a and d", quay.earliest(E, 1, 0), 8);
    QuayBerths one = Check.told("crane 0 299;ship a 10 0 0 24 3 0 0 1 1;ship b 10 0 0 36 0 0 0 1 1;ship c 10 0 0 35 0 0 0 1 1;"
        + "gangs 0 0 1;");
    one.put(0, 0, 3, 1);
    CHECK.due("b just works ahead of a", one.earliest(1, 1, 0), 0);
    CHECK.due("at the same metre", one.earliest(1, 1, 1), 0);
    one.put(1, 0, 0, 1);
    CHECK.due("c behind both", one.earliest(2, 1, 0), 5);
    CHECK.due("c leaves", one.earliest(2, 1, 2), 8);
  }

  private static void putting() {
    QuayBerths quay = Check.told(HARBOUR);
    CHECK.due("no such ship", quay.put(-1, 0, 0, 1), -1);
    CHECK.due("no such ship", quay.put(6, 0, 0, 1), -1);
    CHECK.due("law 1", quay.put(A, 151, 0, 0), -2);
    CHECK.due("law 2", quay.put(A, 0, 1, 0), -3);
    CHECK.due("law 3", quay.put(A, 0, 2, 0), -4);
    CHECK.due("law 4", quay.put(B, 0, 3, 1), -5);
    CHECK.due("law 5", quay.put(B, 0, 31, 1), -6);
    CHECK.due("law 6", quay.put(D, 0, 2, 1), -7);
    CHECK.due("no acts", quay.count(11), 0);
    CHECK.due("a", quay.put(A, 0, 2, 1), 6);
    CHECK.due("it has one", quay.put(A, 0, 100, 1), -1);
    CHECK.due("it has one and breaks a law", quay.put(A, -1, 100, 1), -1);
    CHECK.due("law 7", quay.put(C, 54, 2, 1), -8);
    CHECK.due("law 8", quay.put(C, 100, 2, 2), -9);
    CHECK.due("law 9", quay.put(C, 50, 10, 2), -10);
    CHECK.due("acts", quay.count(11), 1);
    CHECK.due("c", quay.put(C, 55, 2, 1), 3);
    CHECK.due("x", quay.ship(C, 9), 55);
    CHECK.due("t", quay.ship(C, 10), 2);
    CHECK.due("k", quay.ship(C, 11), 1);
    CHECK.due("acts", quay.count(11), 2);
    CHECK.due("stays", quay.count(10), 2);
  }

  private static void byItself() {
    QuayBerths quay = Check.told(HARBOUR);
    CHECK.due("a with two cranes", quay.itself(A), 2);
    CHECK.due("its metre", quay.ship(A, 9), 40);
    CHECK.due("its cranes", quay.ship(A, 11), 2);
    CHECK.due("it has one", quay.itself(A), -1);
    CHECK.due("e with two cranes", quay.itself(E), 0);
    CHECK.due("its cranes", quay.ship(E, 11), 2);
    CHECK.due("too long", quay.itself(F), -2);
    CHECK.due("no such ship", quay.itself(6), -1);
    CHECK.due("no such ship", quay.itself(-1), -1);
    CHECK.due("acts", quay.count(11), 2);
    QuayBerths fewer = Check.told("crane 0 99;crane 50 99;gangs 0 0 1;gangs 0 1 0;gangs 0 2 1;gangs 1 0 2;"
        + "ship a 10 0 0 24 0 0 0 1 2;ship b 10 0 0 240 0 0 0 1 3;ship c 10 0 0 4000 0 0 0 1 3;ship d 10 0 0 12 0 0 0 2 3;");
    // with two cranes there are gangs enough from slot 48 on: most cranes come first, however late
    CHECK.due("two cranes, late", fewer.itself(0), 48);
    CHECK.due("its metre: two cranes reach", fewer.ship(0, 9), 50);
    CHECK.due("undo", fewer.undo(), 0);
    CHECK.due("away with the gangs", Check.tell(fewer, "crane 0 99;crane 50 99;"
        + "ship a 10 0 0 4000 0 0 0 1 2;ship b 10 0 0 4000 300 0 0 1 2;ship c 20 0 0 12 0 0 0 2 3;"), 5);
    // a: 4000 boxes take 167 slots with two cranes, 334 with one
    CHECK.due("a", fewer.itself(0), 0);
    CHECK.due("a leaves", fewer.ship(0, 13), 167);
    CHECK.due("b has no time", fewer.itself(1), -2);
    CHECK.due("c waits for two cranes", fewer.itself(2), 167);
    CHECK.due("c's metre: 40 to 59", fewer.ship(2, 9), 40);
    CHECK.due("one crane less", Check.tell(fewer, "crane 0 99;gangs 0 0 9;ship a 10 0 0 24 0 0 0 1 8;"), 3);
    CHECK.due("down to one", fewer.itself(0), 0);
    CHECK.due("its cranes", fewer.ship(0, 11), 1);
  }

  private static void takingAway() {
    QuayBerths quay = Check.told(HARBOUR);
    CHECK.due("it has none", quay.away(A), false);
    CHECK.due("no such ship", quay.away(-1), false);
    CHECK.due("no such ship", quay.away(6), false);
    CHECK.due("no acts", quay.count(11), 0);
    quay.put(A, 0, 2, 1);
    CHECK.due("away", quay.away(A), true);
    CHECK.due("acts", quay.count(11), 2);
    CHECK.due("stays", quay.count(10), 0);
    CHECK.due("no cranes at work", quay.count(15), 0);
    CHECK.due("no stay", quay.ship(A, 9), -2);
    CHECK.due("again", quay.away(A), false);
    CHECK.due("nobody in the way", quay.put(C, 0, 2, 1), 3);
  }

  private static void moving() {
    QuayBerths quay = Check.told(HARBOUR);
    CHECK.due("it has none", quay.move(A, 1, 1), -1);
    quay.put(A, 80, 10, 2);
    quay.put(C, 150, 10, 1);
    CHECK.due("three cranes", quay.ship(C, 9), -2);
    quay.put(C, 150, 12, 1);
    CHECK.due("no such ship", quay.move(-1, 1, 1), -1);
    CHECK.due("no such ship", quay.move(6, 1, 1), -1);
    CHECK.due("both are 0", quay.move(A, 0, 0), -1);
    CHECK.due("one metre on", quay.move(A, 1, 0), 12);
    CHECK.due("x", quay.ship(A, 9), 81);
    CHECK.due("a slot on: c works then", quay.move(A, 0, 1), -9);
    CHECK.due("x", quay.ship(A, 9), 81);
    CHECK.due("t", quay.ship(A, 10), 10);
    CHECK.due("back", quay.move(A, -21, -8), 4);
    CHECK.due("x", quay.ship(A, 9), 60);
    CHECK.due("t", quay.ship(A, 10), 2);
    CHECK.due("k", quay.ship(A, 11), 2);
    CHECK.due("law 1", quay.move(A, -61, 0), -2);
    CHECK.due("law 1", quay.move(A, MAX, 0), -2);
    CHECK.due("law 1", quay.move(A, MIN, MIN), -2);
    CHECK.due("law 2", quay.move(A, 0, -1), -3);
    CHECK.due("law 2", quay.move(A, 0, MIN), -3);
    CHECK.due("law 4", quay.move(A, 0, 334), -5);
    CHECK.due("law 4", quay.move(A, 0, MAX), -5);
    CHECK.due("law 5", quay.move(A, 0, 332), -6);
    CHECK.due("law 7", quay.move(C, -60, -9), -8);
    CHECK.due("law 9", quay.move(A, -60, 0), -10);
    CHECK.due("acts", quay.count(11), 4);
    CHECK.due("undo", quay.undo(), 3);
    CHECK.due("x", quay.ship(A, 9), 81);
    QuayBerths deep = Check.told(HARBOUR);
    deep.put(D, 100, 0, 1);
    CHECK.due("law 6", deep.move(D, -1, 0), -7);
    CHECK.due("a metre behind its own", deep.move(D, 1, 0), 8);
  }

  private static void swapping() {
    QuayBerths quay = Check.told(HARBOUR);
    quay.put(A, 60, 2, 2);
    CHECK.due("other without a stay", quay.swap(A, C), -1);
    CHECK.due("one without a stay", quay.swap(C, A), -1);
    quay.put(C, 160, 20, 1);
    CHECK.due("one and the same", quay.swap(A, A), -1);
    CHECK.due("no such ship", quay.swap(A, 6), -1);
    CHECK.due("no such ship", quay.swap(-1, A), -1);
    CHECK.due("a would lie up to metre 209", quay.swap(A, C), -2);
    CHECK.due("move c", quay.move(C, -60, 12), 33);
    CHECK.due("swap", quay.swap(A, C), 34);
    CHECK.due("a's x", quay.ship(A, 9), 100);
    CHECK.due("a's t", quay.ship(A, 10), 32);
    CHECK.due("a's k", quay.ship(A, 11), 2);
    CHECK.due("c's x", quay.ship(C, 9), 60);
    CHECK.due("c's t", quay.ship(C, 10), 2);
    CHECK.due("c's k", quay.ship(C, 11), 1);
    CHECK.due("acts", quay.count(11), 4);
    CHECK.due("swap, the other way told", quay.swap(C, A), 33);
    CHECK.due("a's x", quay.ship(A, 9), 60);
    CHECK.due("undo", quay.undo(), 4);
    CHECK.due("a's x", quay.ship(A, 9), 100);
  }

  private static void swappingRefused() {
    // a and b lie side by side in the same slots; a is the longer one
    QuayBerths quay = Check.told("quay 100;crane 0 99;crane 0 99;ship a 60 0 0 12 0 0 0 1 1;ship b 30 0 0 12 0 0 0 1 1;"
        + "ship c 10 0 0 12 0 0 0 1 1;ship d 10 0 0 12 5 0 0 1 1;");
    quay.put(0, 0, 0, 1);
    quay.put(1, 60, 0, 1);
    CHECK.due("a breaks law 1 at 60", quay.swap(0, 1), -2);
    CHECK.due("b fits, a breaks law 1", quay.swap(1, 0), -2);
    CHECK.due("a's x", quay.ship(0, 9), 0);
    CHECK.due("b's x", quay.ship(1, 9), 60);
    quay.move(1, -60, 1);
    quay.move(1, 40, -1);
    CHECK.due("b at 40 would lie where a lies", quay.ship(1, 10), 1);
    CHECK.due("b's x", quay.ship(1, 9), 0);
    CHECK.due("swap in time alone", quay.swap(0, 1), 2);
    CHECK.due("put c", quay.put(2, 70, 3, 1), 4);
    CHECK.due("put d", quay.put(3, 90, 5, 1), 6);
    CHECK.due("d comes in slot 5 only", quay.swap(2, 3), -3);
    CHECK.due("by the first one", quay.swap(3, 2), -3);
    CHECK.due("c's t", quay.ship(2, 10), 3);
    CHECK.due("acts", quay.count(11), 6);
    QuayBerths lying = Check.told("quay 100;crane 0 99;crane 0 99;ship a 40 0 0 12 0 0 0 1 1;ship b 20 0 0 12 0 0 0 1 1;");
    lying.put(0, 0, 0, 1);
    lying.put(1, 40, 0, 1);
    // a at 40 to 79, b at 0 to 19
    CHECK.due("they change their places", lying.swap(0, 1), 1);
    CHECK.due("back again", lying.swap(0, 1), 1);
    lying.move(1, 30, 0);
    lying.move(0, 30, 0);
    // a at 30 to 69, b at 70 to 89; a at 70 would reach metre 109
    CHECK.due("law 1", lying.swap(1, 0), -2);
    QuayBerths near = Check.told("quay 100;crane 0 99;crane 0 99;ship a 40 0 0 12 0 0 0 1 1;ship b 20 0 0 12 0 0 0 1 1;");
    near.put(0, 20, 0, 1);
    near.put(1, 0, 0, 1);
    // a at 0 to 39, then b at 20 lies where a lies by now
    CHECK.due("law 7 by the second one", near.swap(0, 1), -8);
    // b at 20 to 39, then a at 0 lies where b lies by now
    CHECK.due("law 7 by the second one", near.swap(1, 0), -8);
    CHECK.due("both as before", near.ship(0, 9) * 1000 + near.ship(1, 9), 20000);
    CHECK.due("cranes at work as before", near.count(15), 2);
  }

  private static void squeezing() {
    QuayBerths quay = Check.told(HARBOUR);
    CHECK.due("none lies there", quay.squeeze(), -1);
    quay.put(A, 0, 2, 1);
    CHECK.due("none lies earlier", quay.squeeze(), -1);
    CHECK.due("acts", quay.count(11), 1);
    quay.put(C, 0, 30, 1);
    quay.put(B, 0, 20, 1);
    // b lies from slot 6 on behind a, c (12 boxes: 1 slot) ahead of a in slot 0
    CHECK.due("two lie earlier", quay.squeeze(), 2);
    CHECK.due("a", quay.ship(A, 10), 2);
    CHECK.due("b", quay.ship(B, 10), 6);
    CHECK.due("c", quay.ship(C, 10), 0);
    CHECK.due("x", quay.ship(B, 9), 0);
    CHECK.due("k", quay.ship(B, 11), 1);
    CHECK.due("acts", quay.count(11), 4);
    CHECK.due("undo", quay.undo(), 3);
    CHECK.due("b", quay.ship(B, 10), 20);
    CHECK.due("c", quay.ship(C, 10), 30);
  }

  private static void squeezingInTurn() {
    // one crane: each works 2 slots; by slots as they were: b (10), c (20), a (20 too, but number 0)
    QuayBerths quay = Check.told("quay 100;crane 0 99;ship a 10 0 0 24 0 0 0 1 1;ship b 10 0 0 24 1 0 0 1 1;"
        + "ship c 10 0 0 24 0 0 0 1 1;ship d 10 0 0 24 0 0 0 1 1;");
    quay.put(0, 0, 20, 1);
    quay.put(1, 20, 10, 1);
    quay.put(2, 40, 30, 1);
    quay.put(3, 60, 25, 1);
    CHECK.due("all lie earlier", quay.squeeze(), 4);
    CHECK.due("b goes first, from slot 1 on", quay.ship(1, 10), 1);
    CHECK.due("then a", quay.ship(0, 10), 3);
    CHECK.due("then d", quay.ship(3, 10), 5);
    CHECK.due("then c", quay.ship(2, 10), 7);
    CHECK.due("again", quay.squeeze(), -1);
    QuayBerths like = Check.told("quay 100;crane 0 99;crane 0 99;gangs 0 0 1;ship a 10 0 0 24 0 0 0 1 1;"
        + "ship b 10 0 0 24 0 0 0 1 1;");
    like.put(1, 20, 20, 1);
    like.put(0, 0, 20, 1);
    CHECK.due("both lie earlier", like.squeeze(), 2);
    CHECK.due("of like ones by number", like.ship(0, 10), 0);
    CHECK.due("then the other", like.ship(1, 10), 2);
  }

  private static void placesByTens() {
    QuayBerths quay = Check.told(HARBOUR);
    CHECK.due("a: 0 to 150", quay.places(A, 2, 1, -1), 16);
    CHECK.due("first", quay.places(A, 2, 1, 0), 0);
    CHECK.due("last", quay.places(A, 2, 1, 15), 150);
    CHECK.due("not so many", quay.places(A, 2, 1, 16), -2);
    CHECK.due("i -2", quay.places(A, 2, 1, -2), -1);
    CHECK.due("no such ship", quay.places(6, 2, 1, 0), -1);
    CHECK.due("no such ship", quay.places(-1, 2, 1, -1), -1);
    CHECK.due("two cranes: 40 to 120", quay.places(A, 2, 2, -1), 9);
    CHECK.due("the second", quay.places(A, 2, 2, 1), 50);
    CHECK.due("too soon", quay.places(A, 1, 1, -1), 0);
    CHECK.due("too soon", quay.places(A, 1, 1, 0), -2);
    CHECK.due("too long", quay.places(F, 0, 1, -1), 0);
    CHECK.due("a far slot", quay.places(A, MAX, 1, -1), 0);
    CHECK.due("deep enough: 100 to 160", quay.places(D, 0, 1, -1), 7);
    quay.put(A, 50, 2, 1);
    CHECK.due("its own stay is not counted", quay.places(A, 3, 1, -1), 16);
    // c (30 long) beside a at 50 to 99: 0, 10, 110 to 170
    CHECK.due("c", quay.places(C, 3, 1, -1), 9);
    CHECK.due("behind a", quay.places(C, 3, 1, 2), 110);
  }

  private static void hopelessShips() {
    QuayBerths quay = Check.told(HARBOUR);
    CHECK.due("f is too long", quay.hopeless(), 1 << F);
    quay.put(A, 0, 2, 1);
    quay.put(E, 0, 50, 1);
    CHECK.due("beside others, too", quay.hopeless(), 1 << F);
    CHECK.due("they lie as before", quay.count(10), 2);
    CHECK.due("x", quay.ship(A, 10), 2);
    CHECK.due("cranes at work as before", quay.count(15), 5);
    CHECK.due("acts", quay.count(11), 2);
    QuayBerths full = Check.told("quay 50;crane 0 9;ship a 50 0 0 4008 0 0 0 1 1;ship b 50 0 0 4008 0 0 0 1 1;");
    full.put(0, 0, 0, 1);
    CHECK.due("b has no place beside a", full.itself(1), -2);
    CHECK.due("but it would have one without it", full.hopeless(), 0);
    QuayBerths none = Check.told("ship a 1 0 0 0 0 0 0 1 1;ship b 1 0 0 0 0 0 0 1 1;");
    CHECK.due("without cranes", none.hopeless(), 3);
    QuayBerths some = Check.told("crane 0 9;crane 5 9;section 20 50;ship a 10 101 0 0 0 0 0 1 1;ship b 10 0 101 0 0 0 0 1 1;"
        + "ship c 10 0 0 0 335 0 0 1 1;ship d 10 0 0 0 0 0 0 3 8;ship e 5 0 0 0 0 0 0 2 8;ship f 10 0 0 0 0 0 0 2 8;");
    // e at 0 to 4 or from 10 on is not reached by two cranes
    CHECK.due("all but f", some.hopeless(), 31);
    CHECK.due("a full quay", Check.told("quay 50;crane 0 9;ship a 50 0 0 4008 0 0 0 1 1;ship b 50 0 0 4020 0 0 0 1 1;")
        .hopeless(), 0);
    CHECK.due("one slot too long", Check.told("quay 50;crane 0 9;ship a 50 0 0 4021 0 0 0 1 1;").hopeless(), 1);
  }

  private static void slackOfShips() {
    QuayBerths quay = Check.told(HARBOUR);
    CHECK.due("no stay", quay.slack(A), -2);
    CHECK.due("no such ship", quay.slack(6), -1);
    CHECK.due("no such ship", quay.slack(-1), -1);
    quay.put(A, 0, 2, 1);
    // it works 4 slots and has to leave in slot 335
    CHECK.due("alone", quay.slack(A), 329);
    quay.put(B, 0, 20, 1);
    CHECK.due("others do not stop it for good", quay.slack(A), 329);
    CHECK.due("b: from slot 30 on at the latest", quay.slack(B), 10);
    CHECK.due("nothing has changed", quay.ship(B, 10), 20);
    QuayBerths full = Check.told("crane 0 299;ship a 10 0 0 12 330 0 0 1 1;ship b 10 0 0 36 0 0 0 1 1;");
    full.put(0, 0, 331, 1);
    full.put(1, 20, 332, 1);
    CHECK.due("no slot later: b works then", full.slack(0), 0);
    CHECK.due("none", full.slack(1), 0);
    full.away(1);
    CHECK.due("in 334 it works, in 335 it leaves", full.slack(0), 3);
  }

  private static void alongTheQuay() {
    QuayBerths quay = Check.told(HARBOUR);
    CHECK.due("no stay", quay.along(A, 0), -2);
    CHECK.due("no such ship", quay.along(6, 0), -1);
    CHECK.due("no such ship", quay.along(-1, 0), -1);
    CHECK.due("what 2", quay.along(A, 2), -1);
    CHECK.due("what -1", quay.along(A, -1), -1);
    quay.put(A, 60, 2, 2);
    CHECK.due("what 2", quay.along(A, 2), -1);
    // two cranes reach from 31 (metre 80) to 120
    CHECK.due("least", quay.along(A, 0), 31);
    CHECK.due("greatest", quay.along(A, 1), 120);
    CHECK.due("x", quay.ship(A, 9), 60);
    quay.put(D, 136, 0, 1);
    CHECK.due("up to the gap: 81 to 130", quay.along(A, 1), 81);
    quay.away(D);
    quay.put(D, 150, 3, 1);
    CHECK.due("three cranes", quay.ship(D, 9), -2);
    quay.put(D, 140, 0, 1);
    CHECK.due("up to the gap: 85 to 134", quay.along(A, 1), 85);
    CHECK.due("d: it is deep enough from 100 on, a ends at 109", quay.along(D, 0), 115);
    CHECK.due("d: up to the end of the quay", quay.along(D, 1), 160);
    quay.away(A);
    CHECK.due("d alone", quay.along(D, 0), 100);
    quay.put(E, 0, 50, 1);
    CHECK.due("nowhere else", quay.along(E, 0), 0);
    CHECK.due("nowhere else", quay.along(E, 1), 0);
  }
}
