/** Promises 31 to 34: order, all, best, four. */
public final class AllTest {
  private static final Check CHECK = new Check();

  /** One crane that moves 12 a slot: b works 4 slots, the others 2. */
  private static final String FIVE = "quay 100;crane 0 99;ship a 10 0 0 24 5 20 1 1 1;ship b 30 0 0 48 3 20 1 1 1;"
      + "ship c 30 0 0 24 5 10 0 1 1;ship d 20 0 0 24 0 50 3 1 1;ship e 10 0 0 24 5 20 1 1 1;";

  public static void main(String[] args) {
    orders();
    allByRules();
    allBesideOthers();
    allRefused();
    bestOrder();
    fewestLeftOut();
    bestWithFewerCranes();
    bestBesideOneAnother();
    firstFourOfMore();
    fewerThanFour();
    fourRefused();
    bestAfterChanges();
    CHECK.end();
  }

  private static void orders() {
    QuayBerths quay = Check.told(FIVE);
    int[][] due = {{2, 1, 0, 4, 3}, {3, 1, 2, 0, 4}, {2, 0, 1, 4, 3}, {1, 2, 3, 0, 4}};
    for (int rule = 0; rule < 4; rule++) {
      for (int i = 0; i < 5; i++) CHECK.due("order " + rule + " " + i, quay.order(rule, i), due[rule][i]);
      CHECK.due("not so many", quay.order(rule, 5), -2);
      CHECK.due("not so many", quay.order(rule, Integer.MAX_VALUE), -2);
      CHECK.due("i -1", quay.order(rule, -1), -1);
    }
    QuayBerths near = Check.told("ship a 10 0 0 0 6 0 0 1 1;ship b 10 0 0 0 5 0 3 1 1;ship c 10 0 0 0 300 0 0 1 1;"
        + "ship d 10 0 0 0 0 0 1 1 1;");
    CHECK.due("the slot comes ahead of the rank", near.order(1, 1), 1);
    CHECK.due("the rank comes ahead of the slot", near.order(0, 2), 3);
    CHECK.due("rule 4", quay.order(4, 0), -1);
    CHECK.due("rule -1", quay.order(-1, 0), -1);
    CHECK.due("both", quay.order(4, 9), -1);
    quay.put(0, 0, 5, 1);
    CHECK.due("ships with a stay, too", quay.order(3, 3), 0);
  }

  private static void allByRules() {
    int[][] due = {{11, 7, 5, 0, 13}, {9, 3, 7, 0, 11}, {7, 9, 5, 0, 13}, {9, 3, 7, 0, 11}};
    for (int rule = 0; rule < 4; rule++) {
      QuayBerths quay = Check.told(FIVE);
      CHECK.due("all " + rule, quay.all(rule), 5);
      for (int ship = 0; ship < 5; ship++) CHECK.due("rule " + rule + " t of " + ship, quay.ship(ship, 10), due[rule][ship]);
      CHECK.due("one act", quay.count(11), 1);
      CHECK.due("undo", quay.undo(), 0);
      CHECK.due("none lies there", quay.count(10), 0);
    }
  }

  private static void allBesideOthers() {
    QuayBerths quay = Check.told(FIVE);
    quay.put(0, 50, 5, 1);
    CHECK.due("the four others", quay.all(2), 4);
    CHECK.due("a lies as before", quay.ship(0, 9) * 1000 + quay.ship(0, 10), 50005);
    CHECK.due("c", quay.ship(2, 10), 7);
    CHECK.due("b", quay.ship(1, 10), 9);
    CHECK.due("undo", quay.undo(), 1);
    CHECK.due("a alone", quay.count(10), 1);
  }

  private static void allRefused() {
    QuayBerths quay = Check.told("quay 100;crane 0 99;ship a 10 0 0 0 0 0 0 1 1;ship b 101 0 0 0 0 0 0 1 1;");
    CHECK.due("rule 4", quay.all(4), -1);
    CHECK.due("rule -1", quay.all(-1), -1);
    CHECK.due("b is left out", quay.all(0), 1);
    CHECK.due("0 is an act, too", quay.all(0), 0);
    CHECK.due("acts", quay.count(11), 2);
    CHECK.due("undo", quay.undo(), 1);
    CHECK.due("a lies there still", quay.count(10), 1);
    QuayBerths one = Check.told("crane 0 99;ship a 10 0 0 0 0 0 0 1 1;");
    one.put(0, 0, 0, 1);
    CHECK.due("there is no such ship", one.all(0), -2);
    CHECK.due("rule 4", one.all(4), -1);
    CHECK.due("acts", one.count(11), 1);
  }

  private static void bestOrder() {
    // a works 4 slots, b 1, c 2; b, c, a: they leave in 1, 3, 7, and a alone is late, by 7 at 1 each
    QuayBerths quay = Check.told("quay 100;crane 0 99;ship a 10 0 0 48 0 0 3 1 1;ship b 10 0 0 12 0 1 0 1 1;"
        + "ship c 10 0 0 24 0 3 1 1 1;");
    int[] due = {0, 7, 1, 2, 0, -2, -1};
    for (int what = 0; what < due.length; what++) CHECK.due("best " + what, quay.best(what), due[what]);
    CHECK.due("what -1", quay.best(-1), -1);
    CHECK.due("nothing has changed", quay.count(10), 0);
    CHECK.due("no act", quay.count(11), 0);
    CHECK.due("four", quay.four(), 3);
    CHECK.due("b", quay.ship(1, 10), 0);
    CHECK.due("c", quay.ship(2, 10), 1);
    CHECK.due("a", quay.ship(0, 10), 3);
    CHECK.due("cost", quay.count(14), 7);
    CHECK.due("one act", quay.count(11), 1);
    CHECK.due("no such ship", quay.best(0), -1);
    CHECK.due("undo", quay.undo(), 0);
    CHECK.due("best again", quay.best(2), 1);
    // of like orders the first by numbers
    QuayBerths like = Check.told("quay 100;crane 0 99;crane 0 99;ship a 10 0 0 12 0 9 0 1 1;ship b 10 0 0 12 0 9 0 1 1;"
        + "ship c 10 0 0 12 0 9 0 1 1;ship d 10 0 0 12 0 9 0 1 1;");
    for (int what = 2; what < 6; what++) CHECK.due("best " + what, like.best(what), what - 2);
  }

  private static void fewestLeftOut() {
    // slots 330 to 334 are left: a works 5 slots, b 2, c 3, d 1; two can be put, not with a
    QuayBerths quay = Check.told("quay 100;crane 0 99;ship a 10 0 0 60 330 999 0 1 1;ship b 10 0 0 24 330 332 0 1 1;"
        + "ship c 10 0 0 36 330 335 0 1 1;ship d 10 0 0 12 330 0 3 1 1;");
    int[] due = {2, 0, 1, 0, 2, 3};
    for (int what = 0; what < due.length; what++) CHECK.due("best " + what, quay.best(what), due[what]);
    CHECK.due("four", quay.four(), 2);
    CHECK.due("b", quay.ship(1, 10), 330);
    CHECK.due("c", quay.ship(2, 10), 332);
    CHECK.due("a is left out", quay.ship(0, 10), -2);
    // with one less left out it may cost more: a alone costs nothing, b and c cost
    QuayBerths dear = Check.told("quay 100;crane 0 99;ship a 10 0 0 60 330 999 0 1 1;ship b 10 0 0 24 330 0 0 1 1;"
        + "ship c 10 0 0 36 330 300 0 1 1;");
    // b, then c: 332 and 35; c, then b: 335 and 33: 8 times 367 or 368
    CHECK.due("left out", dear.best(0), 1);
    CHECK.due("cost", dear.best(1), 2936);
    CHECK.due("b ahead of a", dear.best(2), 1);
    CHECK.due("a", dear.best(3), 0);
    CHECK.due("c", dear.best(4), 2);
    CHECK.due("three ships", dear.best(5), -2);
  }

  /** In an order, too, a ship is put with the most cranes for which there is a place. */
  private static void bestWithFewerCranes() {
    QuayBerths quay = Check.told("crane 0 299;crane 0 299;ship a 10 0 0 48 0 0 3 1 2;");
    CHECK.due("two cranes: it leaves in slot 2", quay.best(1), 2);
    CHECK.due("four", quay.four(), 1);
    CHECK.due("its cranes", quay.ship(0, 11), 2);
    QuayBerths one = Check.told("crane 0 299;ship a 10 0 0 48 0 0 3 1 2;");
    CHECK.due("none is left out", one.best(0), 0);
    CHECK.due("one crane: it leaves in slot 4", one.best(1), 4);
    CHECK.due("four", one.four(), 1);
    CHECK.due("its cranes", one.ship(0, 11), 1);
    // 100 boxes take 3 slots with three cranes, 5 with two: from slot 332 on three alone have the time
    QuayBerths late = Check.told("crane 0 299;crane 0 299;crane 0 299;ship a 10 0 0 100 332 0 3 1 3;");
    CHECK.due("none is left out", late.best(0), 0);
    CHECK.due("it leaves in slot 335", late.best(1), 335);
    CHECK.due("four", late.four(), 1);
    // a with both cranes first, b (one crane alone reaches 0 to 49) has to wait for slot 1
    QuayBerths both = Check.told("quay 100;crane 0 99;crane 50 99;ship a 10 0 0 24 0 0 0 1 2;ship b 50 0 0 12 0 0 3 1 1;");
    CHECK.due("cost", both.best(1), 10);
    CHECK.due("a first", both.best(2), 0);
  }

  /** Where the ones ahead in an order lie counts for those behind, and for nobody else. */
  private static void bestBesideOneAnother() {
    String cranes = "quay 100;crane 0 99;crane 0 99;crane 0 99;";
    QuayBerths quay = Check.told(cranes + "ship a 50 0 0 12 0 0 3 1 1;ship b 50 0 0 12 0 0 3 1 1;");
    CHECK.due("side by side: both leave in slot 1", quay.best(1), 2);
    CHECK.due("four", quay.four(), 2);
    CHECK.due("b's metre", quay.ship(1, 9), 50);
    QuayBerths longer = Check.told(cranes + "ship a 50 0 0 12 0 0 3 1 1;ship b 51 0 0 12 0 0 3 1 1;");
    CHECK.due("one behind the other", longer.best(1), 3);
    // a and b have 5 slots together, c has 5 alone: the first order leaves out one, that with c ahead two
    QuayBerths first = Check.told("quay 100;crane 0 99;ship a 10 0 0 24 330 999 0 1 1;ship b 10 0 0 36 330 999 0 1 1;"
        + "ship c 10 0 0 60 330 999 0 1 1;");
    int[] due = {1, 0, 0, 1, 2, -2};
    for (int what = 0; what < due.length; what++) CHECK.due("best " + what, first.best(what), due[what]);
    CHECK.due("four", first.four(), 2);
    // the same, but the two that can be put are dear: 332 and 335, if a comes first; c alone would cost nothing
    QuayBerths dear = Check.told("quay 100;crane 0 99;ship a 10 0 0 24 330 0 3 1 1;ship b 10 0 0 36 330 0 3 1 1;"
        + "ship c 10 0 0 60 330 999 3 1 1;");
    int[] dearest = {1, 667, 0, 1, 2, -2};
    for (int what = 0; what < dearest.length; what++) CHECK.due("dear best " + what, dear.best(what), dearest[what]);
    // a ship with a stay is in the way of all orders, and none of the orders that were tried is
    QuayBerths lying = Check.told("quay 100;crane 0 99;crane 0 99;ship a 100 0 0 24 0 0 3 1 1;ship b 100 0 0 24 1 0 3 1 1;"
        + "ship c 100 0 0 12 0 0 3 1 1;");
    CHECK.due("put c", lying.put(2, 0, 1, 1), 2);
    CHECK.due("a, then b: they leave in slots 4 and 6", lying.best(1), 10);
    CHECK.due("c still lies there alone", lying.lies(1, -1) * 10 + lying.lies(3, -1), 10);
    CHECK.due("no cranes at work but its own", lying.count(15), 1);
  }

  private static void firstFourOfMore() {
    QuayBerths quay = Check.told(FIVE);
    quay.put(2, 0, 20, 1);
    // a, b, d, e: nobody late if b comes first (3 to 6), then a or e
    CHECK.due("left out", quay.best(0), 0);
    CHECK.due("cost", quay.best(1), 0);
    CHECK.due("first", quay.best(2), 0);
    CHECK.due("second", quay.best(3), 1);
    CHECK.due("third", quay.best(4), 3);
    CHECK.due("fourth", quay.best(5), 4);
    QuayBerths five = Check.told("quay 100;crane 0 99;ship a 10 0 0 12 0 0 3 1 1;ship b 10 0 0 12 0 0 3 1 1;"
        + "ship c 10 0 0 12 0 0 3 1 1;ship d 10 0 0 12 0 0 2 1 1;ship e 10 0 0 12 0 0 0 1 1;");
    // d leaves in slot 1 at 2 each, the others in 2, 3, 4; e is not among them
    CHECK.due("cost", five.best(1), 11);
    CHECK.due("d first", five.best(2), 3);
    CHECK.due("then a", five.best(3), 0);
    CHECK.due("four", five.four(), 4);
    CHECK.due("e has no stay", five.ship(4, 9), -2);
    CHECK.due("then e alone", five.best(2), 4);
    CHECK.due("its cost: it leaves in slot 5", five.best(1), 40);
    CHECK.due("four", five.four(), 1);
    CHECK.due("four", five.four(), -1);
  }

  private static void fewerThanFour() {
    QuayBerths quay = Check.told("crane 0 99;ship a 10 0 0 12 0 0 0 1 1;");
    CHECK.due("the first", quay.best(2), 0);
    CHECK.due("no second", quay.best(3), -2);
    CHECK.due("no fourth", quay.best(5), -2);
    CHECK.due("what 6", quay.best(6), -1);
    QuayBerths none = new QuayBerths();
    for (int what = -1; what < 7; what++) CHECK.due("no ships " + what, none.best(what), -1);
    CHECK.due("no ships", none.four(), -1);
  }

  private static void fourRefused() {
    QuayBerths quay = Check.told("quay 100;ship a 10 0 0 0 0 0 0 1 1;ship b 10 0 0 0 0 0 0 1 1;");
    CHECK.due("both are left out", quay.best(0), 2);
    CHECK.due("no cost", quay.best(1), 0);
    CHECK.due("first by numbers", quay.best(2), 0);
    CHECK.due("none can be put", quay.four(), -1);
    CHECK.due("no act", quay.count(11), 0);
    QuayBerths five = Check.told("ship a 10 0 0 0 0 0 0 1 1;ship b 10 0 0 0 0 0 0 1 1;ship c 10 0 0 0 0 0 0 1 1;"
        + "ship d 10 0 0 0 0 0 0 1 1;ship e 10 0 0 0 0 0 0 1 1;");
    int[] due = {4, 0, 0, 1, 2, 3};
    for (int what = 0; what < due.length; what++) CHECK.due("best " + what, five.best(what), due[what]);
    CHECK.due("none can be put", five.four(), -1);
  }

  private static void bestAfterChanges() {
    // a works 4 slots, b 1: b first, unless a lies there
    QuayBerths quay = Check.told("quay 100;crane 0 99;ship a 10 0 0 48 0 0 3 1 1;ship b 10 0 0 12 0 1 0 1 1;");
    CHECK.due("cost", quay.best(1), 5);
    CHECK.due("put a", quay.put(0, 0, 0, 1), 4);
    CHECK.due("b behind a", quay.best(1), 32);
    CHECK.due("mark", quay.mark(0), 1);
    CHECK.due("away", quay.away(0), true);
    CHECK.due("cost", quay.best(1), 5);
    CHECK.due("back", quay.back(0), 1);
    CHECK.due("b behind a", quay.best(1), 32);
    CHECK.due("move a", quay.move(0, 0, 1), 5);
    CHECK.due("b ahead of a", quay.best(1), 0);
    CHECK.due("squeeze", quay.squeeze(), 1);
    CHECK.due("b behind a", quay.best(1), 32);
    CHECK.due("undo", quay.undo(), 1);
    CHECK.due("b ahead of a", quay.best(1), 0);
    CHECK.due("a text", Check.tell(quay, "crane 0 99;ship a 10 0 0 12 0 0 3 1 1;"), 2);
    CHECK.due("cost", quay.best(1), 1);
  }
}
