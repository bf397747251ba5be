/** Promises 50 to 53: differs, undo, mark, back. */
public final class UndoTest {
  private static final Check CHECK = new Check();
  private static final String THREE = "quay 100;crane 0 99;crane 0 99;crane 0 99;ship a 10 0 0 12 0 0 0 1 2;"
      + "ship b 10 0 0 12 0 0 0 1 1;ship c 10 0 0 12 0 0 0 1 1;";

  public static void main(String[] args) {
    differences();
    undoing();
    undoingEachAct();
    twelveActs();
    refusedCallsAreNoActs();
    marks();
    goingBack();
    CHECK.end();
  }

  private static void differences() {
    QuayBerths quay = Check.told(THREE);
    for (int mark = -1; mark < 5; mark++) CHECK.due("never made " + mark, quay.differs(mark), -1);
    quay.put(0, 0, 5, 1);
    quay.put(1, 20, 5, 1);
    quay.mark(2);
    CHECK.due("none", quay.differs(2), 0);
    CHECK.due("another mark", quay.differs(1), -1);
    quay.put(2, 40, 5, 1);
    CHECK.due("one more", quay.differs(2), 4);
    quay.away(1);
    CHECK.due("one less", quay.differs(2), 6);
    quay.move(0, 1, 0);
    CHECK.due("another x", quay.differs(2), 7);
    quay.move(0, -1, 0);
    CHECK.due("as before", quay.differs(2), 6);
    quay.move(0, 0, 1);
    CHECK.due("another t", quay.differs(2), 7);
    quay.undo();
    quay.away(0);
    quay.put(0, 0, 5, 2);
    CHECK.due("another k", quay.differs(2), 7);
    quay.away(0);
    quay.put(0, 0, 5, 1);
    quay.put(1, 20, 5, 1);
    quay.away(2);
    CHECK.due("all as before", quay.differs(2), 0);
    quay.mark(2);
    CHECK.due("made anew", quay.differs(2), 0);
  }

  private static void undoing() {
    QuayBerths quay = Check.told(THREE);
    CHECK.due("none can", quay.undo(), -1);
    quay.put(0, 0, 5, 1);
    quay.move(0, 3, 4);
    quay.away(0);
    CHECK.due("acts", quay.count(11), 3);
    CHECK.due("undo away", quay.undo(), 2);
    CHECK.due("x", quay.ship(0, 9), 3);
    CHECK.due("t", quay.ship(0, 10), 9);
    CHECK.due("undo move", quay.undo(), 1);
    CHECK.due("x", quay.ship(0, 9), 0);
    CHECK.due("t", quay.ship(0, 10), 5);
    CHECK.due("cranes at work", quay.shift(0, 0, 2), 1);
    CHECK.due("undo put", quay.undo(), 0);
    CHECK.due("no stay", quay.ship(0, 9), -2);
    CHECK.due("no cranes at work", quay.count(15), 0);
    CHECK.due("none can", quay.undo(), -1);
  }

  private static void undoingEachAct() {
    QuayBerths quay = Check.told(THREE);
    CHECK.due("itself", quay.itself(0), 0);
    CHECK.due("undo", quay.undo(), 0);
    CHECK.due("stays", quay.count(10), 0);
    CHECK.due("all", quay.all(1), 3);
    CHECK.due("undo", quay.undo(), 0);
    CHECK.due("stays", quay.count(10), 0);
    CHECK.due("four", quay.four(), 3);
    CHECK.due("undo", quay.undo(), 0);
    CHECK.due("stays", quay.count(10), 0);
    quay.put(1, 20, 7, 1);
    CHECK.due("four", quay.four(), 2);
    CHECK.due("undo", quay.undo(), 1);
    CHECK.due("b alone", quay.ship(1, 9) + 100 * quay.count(10), 120);
    CHECK.due("itself", quay.itself(0), 0);
    CHECK.due("undo", quay.undo(), 1);
    CHECK.due("b alone", quay.ship(1, 9) + 100 * quay.count(10), 120);
    quay.put(2, 40, 9, 1);
    quay.mark(0);
    CHECK.due("swap", quay.swap(1, 2), 10);
    CHECK.due("two differ", quay.differs(0), 6);
    CHECK.due("undo", quay.undo(), 2);
    CHECK.due("none differs", quay.differs(0), 0);
    CHECK.due("squeeze", quay.squeeze(), 2);
    CHECK.due("two differ", quay.differs(0), 6);
    CHECK.due("undo", quay.undo(), 2);
    CHECK.due("none differs", quay.differs(0), 0);
  }

  private static void twelveActs() {
    QuayBerths quay = Check.told(THREE);
    quay.put(0, 0, 0, 1);
    for (int i = 1; i < 12; i++) CHECK.due("move " + i, quay.move(0, 1, 0), 1);
    CHECK.due("twelve", quay.count(11), 12);
    for (int i = 12; i < 30; i++) CHECK.due("move " + i, quay.move(0, 1, 0), 1);
    CHECK.due("twelve are kept", quay.count(11), 12);
    CHECK.due("x", quay.ship(0, 9), 29);
    for (int i = 11; i >= 0; i--) {
      CHECK.due("undo", quay.undo(), i);
      CHECK.due("x", quay.ship(0, 9), 17 + i);
    }
    CHECK.due("none can", quay.undo(), -1);
    CHECK.due("x", quay.ship(0, 9), 17);
    quay.move(0, 5, 0);
    CHECK.due("acts", quay.count(11), 1);
    CHECK.due("undo", quay.undo(), 0);
    CHECK.due("x", quay.ship(0, 9), 17);
  }

  private static void refusedCallsAreNoActs() {
    QuayBerths quay = Check.told(THREE);
    quay.put(0, 0, 0, 1);
    quay.mark(0);
    CHECK.due("put", quay.put(0, 5, 5, 1), -1);
    CHECK.due("put", quay.put(1, 5, 0, 1), -8);
    CHECK.due("itself", quay.itself(0), -1);
    CHECK.due("away", quay.away(1), false);
    CHECK.due("move", quay.move(0, -1, 0), -2);
    CHECK.due("swap", quay.swap(0, 1), -1);
    CHECK.due("squeeze", quay.squeeze(), -1);
    CHECK.due("all", quay.all(9), -1);
    CHECK.due("undo a mark's way", quay.back(3), -1);
    CHECK.due("acts", quay.count(11), 1);
    CHECK.due("none differs", quay.differs(0), 0);
  }

  private static void marks() {
    QuayBerths quay = Check.told(THREE);
    CHECK.due("mark 4", quay.mark(4), -1);
    CHECK.due("mark -1", quay.mark(-1), -1);
    CHECK.due("none made", quay.count(12), 0);
    CHECK.due("no stays", quay.mark(0), 0);
    quay.put(0, 0, 0, 1);
    CHECK.due("one stay", quay.mark(3), 1);
    quay.put(2, 30, 0, 1);
    CHECK.due("two stays", quay.mark(1), 2);
    CHECK.due("marks", quay.count(12), 3);
    CHECK.due("a mark is no act", quay.count(11), 2);
    quay.undo();
    CHECK.due("undo leaves the marks", quay.count(12), 3);
    CHECK.due("differs", quay.differs(1), 4);
    CHECK.due("differs", quay.differs(3), 0);
    CHECK.due("differs", quay.differs(0), 1);
  }

  private static void goingBack() {
    QuayBerths quay = Check.told(THREE);
    CHECK.due("never made", quay.back(0), -1);
    CHECK.due("mark 4", quay.back(4), -1);
    CHECK.due("mark -1", quay.back(-1), -1);
    quay.put(0, 0, 3, 2);
    quay.mark(0);
    quay.put(1, 20, 3, 1);
    quay.away(0);
    CHECK.due("never made", quay.back(1), -1);
    CHECK.due("acts", quay.count(11), 3);
    CHECK.due("back", quay.back(0), 1);
    CHECK.due("a", quay.ship(0, 10) * 10 + quay.ship(0, 11), 32);
    CHECK.due("b", quay.ship(1, 10), -2);
    CHECK.due("no acts", quay.count(11), 0);
    CHECK.due("undo", quay.undo(), -1);
    CHECK.due("marks", quay.count(12), 1);
    CHECK.due("cranes at work", quay.count(15), 2);
    quay.move(0, 7, 0);
    CHECK.due("acts", quay.count(11), 1);
    CHECK.due("the mark holds what it held", quay.back(0), 1);
    CHECK.due("x", quay.ship(0, 9), 0);
  }
}
