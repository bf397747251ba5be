/** Promises 5 to 13: count, depth, shallow, level, gangs, crane, ship, letter, moves. */
public final class ToldTest {
  private static final Check CHECK = new Check();

  public static void main(String[] args) {
    counts();
    countsOfStays();
    depths();
    levels();
    gangsOfShifts();
    cranes();
    shipsAsTold();
    shipsWithStays();
    letters();
    movesOfCranes();
    CHECK.end();
  }

  private static void counts() {
    QuayBerths quay = Check.told("quay 400;gap 11;keel 6;channel 91;rate 13;loss 4;section 0 120;section 200 150;"
        + "crane 0 250;crane 100 399;crane 5 6;tide 0 10;gangs 0 0 1;gangs 0 1 1;"
        + "ship a 1 0 0 0 0 0 0 1 1;ship b 1 0 0 0 0 0 0 1 1;ship c 1 0 0 0 0 0 0 1 1;ship d 1 0 0 0 0 0 0 1 1;");
    int[] due = {400, 11, 6, 91, 13, 4, 2, 3, 1, 4, 0, 0, 0, 0, 0, 0};
    for (int what = 0; what < due.length; what++) CHECK.due("count " + what, quay.count(what), due[what]);
    CHECK.due("count 16", quay.count(16), -1);
    CHECK.due("count -1", quay.count(-1), -1);
    CHECK.due("count max", quay.count(Integer.MAX_VALUE), -1);
    quay.feed(1, 2, 3, 4, 5);
    CHECK.due("tape", quay.count(13), 20);
  }

  private static void countsOfStays() {
    // 12 moves a slot and crane: a works 4 slots with 2 cranes (96 boxes), b 3 slots with 1 crane
    QuayBerths quay = Check.told("crane 0 299;crane 0 299;crane 0 299;ship a 50 0 0 96 0 1 1 2 2;ship b 50 0 0 36 0 2 3 1 1;"
        + "ship c 50 0 0 0 0 0 0 1 1;");
    CHECK.due("put a", quay.put(0, 0, 0, 2), 4);
    CHECK.due("put b", quay.put(1, 100, 2, 1), 5);
    quay.mark(3);
    quay.mark(3);
    quay.mark(0);
    CHECK.due("stays", quay.count(10), 2);
    CHECK.due("acts", quay.count(11), 2);
    CHECK.due("marks", quay.count(12), 2);
    // a leaves in 4, due 1: late 3 at 4 each; b leaves in 5, due 2: late 3 at 1 each
    CHECK.due("cost", quay.count(14), 15);
    CHECK.due("crane slots", quay.count(15), 11);
  }

  private static void depths() {
    QuayBerths quay = Check.told("quay 400;section 200 150;section 50 120;section 300 0;section 399 300;section 400 7;");
    CHECK.due("ahead of the first", quay.depth(49), 100);
    CHECK.due("from it on", quay.depth(50), 120);
    CHECK.due("behind it", quay.depth(199), 120);
    CHECK.due("the next", quay.depth(200), 150);
    CHECK.due("the next", quay.depth(300), 0);
    CHECK.due("the last metre", quay.depth(399), 300);
    CHECK.due("no such metre", quay.depth(400), -1);
    CHECK.due("no such metre", quay.depth(-1), -1);
    CHECK.due("least of one", quay.shallow(200, 200), 150);
    CHECK.due("least of two sections", quay.shallow(199, 200), 120);
    CHECK.due("least ahead of the first", quay.shallow(0, 250), 100);
    CHECK.due("the last of them", quay.shallow(250, 300), 0);
    CHECK.due("not further than asked", quay.shallow(250, 299), 150);
    CHECK.due("one in the middle", quay.shallow(201, 399), 0);
    CHECK.due("no such metres", quay.shallow(-1, 3), -1);
    CHECK.due("no such metres", quay.shallow(0, 400), -1);
    CHECK.due("the wrong way", quay.shallow(5, 4), -1);
  }

  private static void levels() {
    QuayBerths quay = Check.told("tide 24 10;tide 12 40;tide 4 10;tide 100 10;tide 101 99;");
    int[][] due = {{0, 10}, {4, 10}, {5, 13}, {6, 17}, {7, 21}, {8, 25}, {11, 36}, {12, 40}, {13, 37}, {14, 35},
      {15, 32}, {23, 12}, {24, 10}, {99, 10}, {100, 10}, {101, 99}, {102, 99}, {335, 99}, {336, -1}, {-1, -1}};
    for (int[] pair : due) CHECK.due("level " + pair[0], quay.level(pair[0]), pair[1]);
    CHECK.due("falling slowly", Check.told("tide 0 1;tide 335 0;").level(1), 0);
    CHECK.due("a told one", Check.told("tide 0 1;tide 335 0;").level(0), 1);
    CHECK.due("one alone", Check.told("tide 50 7;").level(0), 7);
    CHECK.due("without any", new QuayBerths().level(7), 0);
  }

  private static void gangsOfShifts() {
    QuayBerths quay = Check.told("crane 0 1;crane 0 1;crane 0 1;gangs 0 2 1;gangs 6 0 0;gangs 3 1 9;");
    CHECK.due("as told", quay.gangs(0, 2), 1);
    CHECK.due("none told", quay.gangs(6, 0), 0);
    CHECK.due("more than cranes", quay.gangs(3, 1), 9);
    CHECK.due("not told", quay.gangs(0, 0), 3);
    CHECK.due("not told", quay.gangs(2, 0), 3);
    CHECK.due("not told", quay.gangs(6, 2), 3);
    CHECK.due("day 7", quay.gangs(7, 0), -1);
    CHECK.due("day -1", quay.gangs(-1, 0), -1);
    CHECK.due("shift 3", quay.gangs(0, 3), -1);
    CHECK.due("shift -1", quay.gangs(1, -1), -1);
  }

  private static void cranes() {
    QuayBerths quay = Check.told("crane 50 999;crane 7 7;");
    CHECK.due("first", quay.crane(0, 0), 50);
    CHECK.due("last", quay.crane(0, 1), 999);
    CHECK.due("first", quay.crane(1, 0), 7);
    CHECK.due("last", quay.crane(1, 1), 7);
    CHECK.due("what 2", quay.crane(0, 2), -1);
    CHECK.due("what -1", quay.crane(0, -1), -1);
    CHECK.due("crane 2", quay.crane(2, 0), -1);
    CHECK.due("crane -1", quay.crane(-1, 0), -1);
  }

  private static void shipsAsTold() {
    QuayBerths quay = Check.told("ship aa 1 2 3 4 5 6 1 2 3;ship b 400 300 299 9999 335 999 3 7 8;");
    int[][] due = {{1, 2, 3, 4, 5, 6, 1, 2, 3}, {400, 300, 299, 9999, 335, 999, 3, 7, 8}};
    for (int ship = 0; ship < 2; ship++) {
      for (int what = 0; what < 9; what++) CHECK.due("ship " + ship + " " + what, quay.ship(ship, what), due[ship][what]);
      for (int what = 9; what < 18; what++) CHECK.due("no stay " + what, quay.ship(ship, what), -2);
    }
    CHECK.due("what 18", quay.ship(0, 18), -1);
    CHECK.due("what -1", quay.ship(0, -1), -1);
    CHECK.due("ship 2", quay.ship(2, 9), -1);
    CHECK.due("ship -1", quay.ship(-1, 0), -1);
  }

  private static void shipsWithStays() {
    // the channel is open for 120 in slots 10 to 14 only; level 20 at slot 10, 30 at 12, 20 at 14
    QuayBerths quay = Check.told("section 0 200;crane 0 299;crane 0 299;tide 9 0;tide 10 20;tide 12 30;tide 14 20;tide 15 0;"
        + "ship a 10 0 120 70 1 3 0 1 2;ship b 20 120 120 0 4 12 1 1 1;ship c 30 0 0 0 0 999 0 1 1;");
    CHECK.due("put a", quay.put(0, 20, 3, 2), 10);
    // 70 boxes, 24 a slot: work 3; it leaves in slot 10: tide wait 4
    int[] due = {20, 3, 2, 3, 10, 2, 4, 7, 56};
    for (int what = 9; what < 18; what++) CHECK.due("a " + what, quay.ship(0, what), due[what - 9]);
    CHECK.due("put b", quay.put(1, 50, 11, 1), 12);
    int[] dueB = {50, 11, 1, 1, 12, 7, 0, 0, 0};
    for (int what = 9; what < 18; what++) CHECK.due("b " + what, quay.ship(1, what), dueB[what - 9]);
    CHECK.due("away", quay.away(1), true);
    CHECK.due("put b", quay.put(1, 50, 13, 1), 14);
    CHECK.due("late", quay.ship(1, 16), 2);
    CHECK.due("cost", quay.ship(1, 17), 8);
    CHECK.due("put c", quay.put(2, 100, 0, 1), 1);
    CHECK.due("never late", quay.ship(2, 16), 0);
  }

  private static void letters() {
    QuayBerths quay = Check.told("ship az 1 0 0 0 0 0 0 1 1;ship abcdefgh 1 0 0 0 0 0 0 1 1;");
    CHECK.due("a", quay.letter(0, 0), 1);
    CHECK.due("z", quay.letter(0, 1), 26);
    CHECK.due("behind it", quay.letter(0, 2), 0);
    CHECK.due("behind it", quay.letter(0, 7), 0);
    for (int i = 0; i < 8; i++) CHECK.due("letter " + i, quay.letter(1, i), i + 1);
    CHECK.due("letter 8", quay.letter(1, 8), -1);
    CHECK.due("letter -1", quay.letter(1, -1), -1);
    CHECK.due("ship 2", quay.letter(2, 0), -1);
    CHECK.due("ship -1", quay.letter(-1, 0), -1);
    CHECK.due("a fault", Check.tell(quay, "ship zz 1 0;"), -1);
    CHECK.due("the name stays", quay.letter(0, 0), 1);
    CHECK.due("a text", Check.tell(quay, "ship c 1 0 0 0 0 0 0 1 1;ship b 1 0 0 0 0 0 0 1 1;"), 2);
    CHECK.due("a shorter name", quay.letter(1, 1), 0);
  }

  private static void movesOfCranes() {
    QuayBerths quay = Check.told("rate 13;loss 7;");
    // 8 cranes: 8 * 13 * 51 / 100 = 53.04; 2: 26 * 93 / 100 = 24.18
    int[] due = {13, 24, 33, 41, 46, 50, 52, 53};
    for (int k = 1; k <= 8; k++) CHECK.due("moves " + k, quay.moves(k), due[k - 1]);
    CHECK.due("moves 0", quay.moves(0), -1);
    CHECK.due("moves 9", quay.moves(9), -1);
    QuayBerths slow = Check.told("rate 1;loss 10;");
    for (int k = 1; k <= 8; k++) CHECK.due("k at least " + k, slow.moves(k), k);
  }
}
