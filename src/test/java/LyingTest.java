/** Promises 35 to 44: at, lies, free, works, hours, left, shift, busiest, without, used. */
public final class LyingTest {
  private static final Check CHECK = new Check();

  /**
   * One crane moves 12 a slot. c (number 0) lies at 60 to 99 in slots 10 to 19, works in 10; b (1) at 40 to 59 in slots
   * 16 to 24, works in all; a (2) at 0 to 29 in slots 14 to 17, works in all. c waits for the tide of slot 20.
   */
  private static QuayBerths harbour() {
    QuayBerths quay = Check.told("quay 100;section 0 120;crane 0 59;crane 30 99;tide 19 0;tide 20 10;tide 21 0;"
        + "ship c 40 0 110 12 0 3 2 1 1;ship b 20 0 0 100 0 9 1 1 1;ship a 30 0 0 40 0 9 0 1 1;ship d 100 0 0 9 0 0 3 1 1;");
    CHECK.due("put c", quay.put(0, 60, 10, 1), 20);
    CHECK.due("put b", quay.put(1, 40, 16, 1), 25);
    CHECK.due("put a", quay.put(2, 0, 14, 1), 18);
    return quay;
  }

  public static void main(String[] args) {
    whoLies();
    whatIsFree();
    whichCraneWorks();
    whichCraneIsPassedOver();
    byMetreInEachSlot();
    afterALookAtAnotherStay();
    whatIsLeft();
    shifts();
    busiestShift();
    withoutACrane();
    howMuchIsUsed();
    CHECK.end();
  }

  private static void whoLies() {
    QuayBerths quay = harbour();
    int[][] due = {{9, 60, -2}, {10, 60, 0}, {10, 99, 0}, {10, 59, -2}, {19, 60, 0}, {20, 60, -2}, {14, 0, 2}, {13, 0, -2},
      {14, 29, 2}, {14, 30, -2}, {17, 29, 2}, {18, 0, -2}, {16, 40, 1}, {16, 59, 1}, {16, 39, -2}, {24, 50, 1},
      {25, 50, -2}, {335, 99, -2}, {336, 0, -1}, {-1, 0, -1}, {0, 100, -1}, {0, -1, -1}};
    for (int[] one : due) CHECK.due("at " + one[0] + " " + one[1], quay.at(one[0], one[1]), one[2]);
    int[][] rows = {{9}, {10, 0}, {13, 0}, {14, 2, 0}, {16, 2, 1, 0}, {17, 2, 1, 0}, {18, 1, 0}, {20, 1}, {25}, {335}};
    for (int[] row : rows) {
      CHECK.due("how many in " + row[0], quay.lies(row[0], -1), row.length - 1);
      for (int i = 1; i < row.length; i++) CHECK.due("lies " + row[0] + " " + i, quay.lies(row[0], i - 1), row[i]);
      CHECK.due("not so many", quay.lies(row[0], row.length - 1), -2);
    }
    CHECK.due("i -2", quay.lies(16, -2), -1);
    CHECK.due("slot 336", quay.lies(336, -1), -1);
    CHECK.due("slot -1", quay.lies(-1, 0), -1);
  }

  private static void whatIsFree() {
    QuayBerths quay = harbour();
    int[][] due = {{9, 100, 0}, {10, 60, 0}, {14, 30, 30}, {16, 10, 30}, {18, 40, 0}, {20, 40, 0}, {25, 100, 0}};
    for (int[] one : due) {
      CHECK.due("free in " + one[0], quay.free(one[0], 0), one[1]);
      CHECK.due("its first in " + one[0], quay.free(one[0], 1), one[2]);
    }
    CHECK.due("what 2", quay.free(9, 2), -1);
    CHECK.due("what -1", quay.free(9, -1), -1);
    CHECK.due("slot 336", quay.free(336, 0), -1);
    CHECK.due("slot -1", quay.free(-1, 0), -1);
    CHECK.due("put d", quay.put(3, 0, 25, 1), 26);
    CHECK.due("nothing is free", quay.free(25, 0), 0);
    CHECK.due("nothing is free", quay.free(25, 1), -2);
    quay.away(2);
    quay.move(1, -20, 0);
    CHECK.due("behind b", quay.free(22, 0), 60);
    CHECK.due("from 40 on", quay.free(22, 1), 40);
  }

  private static void whichCraneWorks() {
    QuayBerths quay = harbour();
    // b takes crane 0 as soon as a has left
    int[][] due = {{0, 9, -2}, {1, 9, -2}, {0, 10, -2}, {1, 10, 0}, {1, 11, -2}, {0, 14, 2}, {1, 14, -2}, {0, 16, 2},
      {1, 16, 1}, {0, 17, 2}, {1, 17, 1}, {0, 18, 1}, {1, 18, -2}, {0, 24, 1}, {0, 25, -2}, {0, 335, -2},
      {2, 0, -1}, {-1, 0, -1}, {0, 336, -1}, {0, -1, -1}};
    for (int[] one : due) CHECK.due("works " + one[0] + " " + one[1], quay.works(one[0], one[1]), one[2]);
    CHECK.due("hours of 0", quay.hours(0), 11);
    CHECK.due("hours of 1", quay.hours(1), 3);
    CHECK.due("hours of 2", quay.hours(2), -1);
    CHECK.due("hours of -1", quay.hours(-1), -1);
    CHECK.due("nothing has changed", quay.count(15), 14);
    quay.away(1);
    CHECK.due("hours of 0", quay.hours(0), 4);
    CHECK.due("hours of 1", quay.hours(1), 1);
  }

  private static void whichCraneIsPassedOver() {
    QuayBerths quay = Check.told("crane 100 299;crane 0 50;crane 20 299;crane 200 299;ship a 10 0 0 24 0 0 0 1 2;"
        + "ship b 10 0 0 24 0 0 0 1 2;");
    quay.put(0, 20, 0, 1);
    quay.put(1, 200, 0, 2);
    int[] due = {-2, 0, 1, 1};
    for (int crane = 0; crane < 4; crane++) CHECK.due("crane " + crane, quay.works(crane, 0), due[crane]);
    // b works one slot; then a goes on with crane 1
    CHECK.due("crane 1 in slot 1", quay.works(1, 1), 0);
    CHECK.due("crane 2 in slot 1", quay.works(2, 1), -2);
    int[] hours = {0, 2, 1, 1};
    for (int crane = 0; crane < 4; crane++) CHECK.due("hours " + crane, quay.hours(crane), hours[crane]);
    int[] without = {0, 1, 1, 1};
    for (int crane = 0; crane < 4; crane++) CHECK.due("without " + crane, quay.without(crane), without[crane]);
  }

  /** a at 50 to 59 and c at 10 to 19 lie there in slot 0, b along the whole quay in slot 5: it is not between them. */
  private static void byMetreInEachSlot() {
    QuayBerths quay = Check.told("quay 100;crane 0 99;crane 0 99;ship a 10 0 0 12 0 0 0 1 1;ship b 100 0 0 12 0 0 0 1 1;"
        + "ship c 10 0 0 12 0 0 0 1 1;");
    CHECK.due("put a", quay.put(0, 50, 0, 1), 1);
    CHECK.due("put b", quay.put(1, 0, 5, 1), 6);
    CHECK.due("put c", quay.put(2, 10, 0, 1), 1);
    CHECK.due("c is the first along the quay", quay.lies(0, 0), 2);
    CHECK.due("a the second", quay.lies(0, 1), 0);
    CHECK.due("crane 0", quay.works(0, 0), 2);
    CHECK.due("crane 1", quay.works(1, 0), 0);
    CHECK.due("free from 60 on", quay.free(0, 1), 60);
    CHECK.due("40 metres", quay.free(0, 0), 40);
    CHECK.due("b alone", quay.lies(5, 0), 1);
  }

  /** A look at other stays while c is away leaves no trace when c is back. */
  private static void lookWithoutC(QuayBerths quay) {
    CHECK.due("away", quay.away(0), true);
    CHECK.due("breaks", quay.breaks(1, 40, 16, 1), 0);
    CHECK.due("undo", quay.undo(), 3);
  }

  private static void afterALookAtAnotherStay() {
    QuayBerths quay = harbour();
    lookWithoutC(quay);
    CHECK.due("lies", quay.lies(16, 2), 0);
    lookWithoutC(quay);
    CHECK.due("free", quay.free(16, 0), 10);
    lookWithoutC(quay);
    CHECK.due("works", quay.works(1, 10), 0);
    lookWithoutC(quay);
    CHECK.due("hours", quay.hours(1), 3);
    lookWithoutC(quay);
    CHECK.due("without", quay.without(1), 3);
  }

  private static void whatIsLeft() {
    QuayBerths quay = harbour();
    int[][] due = {{2, 0, 40}, {2, 14, 40}, {2, 15, 28}, {2, 16, 16}, {2, 17, 4}, {2, 18, 0}, {2, 335, 0}, {1, 16, 100},
      {1, 17, 88}, {1, 24, 4}, {1, 25, 0}, {0, 10, 12}, {0, 11, 0}, {3, 0, 9}, {3, 335, 9}, {4, 0, -1}, {-1, 0, -1},
      {0, 336, -1}, {0, -1, -1}};
    for (int[] one : due) CHECK.due("left " + one[0] + " " + one[1], quay.left(one[0], one[1]), one[2]);
    QuayBerths empty = Check.told("crane 0 9;ship a 10 0 0 0 0 0 0 1 1;");
    empty.put(0, 0, 0, 1);
    CHECK.due("no boxes", empty.left(0, 0), 0);
    CHECK.due("no boxes", empty.left(0, 1), 0);
  }

  private static void shifts() {
    QuayBerths quay = harbour();
    int[][] due = {{0, 0, 36, 1, 3, 29}, {0, 1, 116, 2, 11, 21}, {0, 2, 0, 0, 0, 32}, {6, 2, 0, 0, 0, 32}};
    for (int[] one : due) {
      for (int what = 0; what < 4; what++) {
        CHECK.due("shift " + one[0] + " " + one[1] + " " + what, quay.shift(one[0], one[1], what), one[what + 2]);
      }
    }
    CHECK.due("what 4", quay.shift(0, 0, 4), -1);
    CHECK.due("what -1", quay.shift(0, 0, -1), -1);
    CHECK.due("day 7", quay.shift(7, 0, 0), -1);
    CHECK.due("day -1", quay.shift(-1, 0, 0), -1);
    CHECK.due("shift 3", quay.shift(0, 3, 0), -1);
    CHECK.due("shift -1", quay.shift(1, -1, 0), -1);
    QuayBerths told = Check.told("crane 0 9;crane 0 9;gangs 1 0 5;ship a 10 0 0 250 47 0 0 1 2;");
    // 24 a slot: 11 slots from 47 on, the last with 10
    CHECK.due("put", told.put(0, 0, 47, 2), 58);
    CHECK.due("moved in slot 47", told.shift(0, 2, 0), 24);
    CHECK.due("moved from 48 on", told.shift(1, 0, 0), 226);
    CHECK.due("cranes at once", told.shift(1, 0, 1), 2);
    CHECK.due("slots of cranes", told.shift(1, 0, 2), 20);
    CHECK.due("slots of gangs without work", told.shift(1, 0, 3), 60);
  }

  private static void busiestShift() {
    QuayBerths quay = harbour();
    CHECK.due("shift 1", quay.busiest(0), 1);
    CHECK.due("boxes", quay.busiest(1), 116);
    CHECK.due("what 2", quay.busiest(2), -1);
    CHECK.due("what -1", quay.busiest(-1), -1);
    CHECK.due("put d", quay.put(3, 0, 300, 1), 301);
    quay.away(1);
    quay.away(2);
    CHECK.due("c alone", quay.busiest(0), 0);
    quay.away(0);
    CHECK.due("d alone: slot 300", quay.busiest(0), 18);
    CHECK.due("boxes", quay.busiest(1), 9);
    QuayBerths like = Check.told("crane 0 9;ship a 10 0 0 12 0 0 0 1 1;ship b 10 0 0 12 0 0 0 1 1;");
    like.put(0, 0, 100, 1);
    like.put(1, 0, 50, 1);
    CHECK.due("the first of like ones", like.busiest(0), 3);
    CHECK.due("nobody", new QuayBerths().busiest(0), 0);
  }

  private static void withoutACrane() {
    QuayBerths quay = harbour();
    // a can't do without crane 0 in 4 slots; c without crane 1 in slot 10, b in 16 and 17
    CHECK.due("without 0", quay.without(0), 4);
    CHECK.due("without 1", quay.without(1), 3);
    CHECK.due("without 2", quay.without(2), -1);
    CHECK.due("without -1", quay.without(-1), -1);
    CHECK.due("nobody", Check.told("crane 0 9;").without(0), 0);
  }

  private static void howMuchIsUsed() {
    QuayBerths quay = harbour();
    // 40 * 10, 20 * 9 and 30 * 4 of 4800
    CHECK.due("day 0", quay.used(0), 14);
    CHECK.due("day 1", quay.used(1), 0);
    CHECK.due("day 7", quay.used(7), -1);
    CHECK.due("day -1", quay.used(-1), -1);
    QuayBerths full = Check.told("quay 50;crane 0 49;ship a 50 0 0 1152 40 0 0 1 1;");
    CHECK.due("96 slots from 40 on", full.put(0, 0, 40, 1), 136);
    CHECK.due("day 0: 8 of 48", full.used(0), 16);
    CHECK.due("day 1: all", full.used(1), 100);
    CHECK.due("day 2: 40 of 48", full.used(2), 83);
    CHECK.due("day 3", full.used(3), 0);
  }
}
