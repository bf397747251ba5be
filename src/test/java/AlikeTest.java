/**
 * However STAYS came to be, by put() or by another ACT, by what was undone or by a MARK, all that is told of them is the same;
 * and what was there before leaves no trace.
 */
public final class AlikeTest {
  private static final Check CHECK = new Check();
  /** LEVEL is 20 in slots 10 to 20, else 0: d leaves then alone. */
  private static final String HARBOUR = "quay 120;gap 2;keel 1;channel 130;section 0 140;section 60 160;tide 9 0;tide 10 20;tide 20 20;"
      + "tide 21 0;gangs 0 1 1;crane 0 70;crane 40 119;crane 60 119;ship a 30 80 70 48 2 3 0 1 2;ship b 20 60 60 24 0 9 1 1 2;"
      + "ship c 40 100 90 24 0 4 2 1 2;ship d 10 50 145 12 0 3 3 1 1;ship e 30 0 0 12 0 0 0 1 1;";
  /** a at 0 to 29 in slots 2 to 5, b at 40 to 59 in 3 and 4, d at 100 to 109 in slots 5 to 9. */
  private static final String[] THREE = {"put 0 0 2 1 = 6", "put 1 40 3 1 = 5", "put 3 100 5 1 = 10"};

  public static void main(String[] args) {
    theOrderOfPuts();
    takenAway();
    undone();
    moved();
    swapped();
    squeezed();
    byItself();
    allAndFour();
    marks();
    anotherText();
    asksLeaveNoDifference();
    CHECK.end();
  }

  private static void lieAlike(String[] one, String... other) {
    new Runs(CHECK, HARBOUR, one).lieAs(new Runs(CHECK, HARBOUR, other), String.join(", ", other));
  }

  private static String[] rows(String... rows) {
    return rows;
  }

  private static void theOrderOfPuts() {
    lieAlike(THREE, "put 3 100 5 1 = 10", "put 1 40 3 1 = 5", "put 0 0 2 1 = 6");
  }

  private static void takenAway() {
    lieAlike(rows(), "put 0 0 2 1 = 6", "away 0 = 1");
    lieAlike(rows(), "put 0 0 2 2 = -10", "put 1 50 3 2 = 4", "put 3 100 5 1 = 10", "away 1 = 1", "away 3 = 1");
    lieAlike(THREE, "put 2 60 3 2 = 4", "away 2 = 1", "put 0 0 2 1 = 6", "put 1 40 3 1 = 5", "put 3 100 5 1 = 10");
    lieAlike(THREE, "put 0 5 5 1 = 9", "put 1 40 3 1 = 5", "put 3 100 5 1 = 10", "away 0 = 1", "put 0 0 2 1 = 6");
    lieAlike(rows("put 1 40 3 1 = 5"), "put 0 0 2 1 = 6", "put 1 40 3 1 = 5", "put 3 100 5 1 = 10", "away 0 = 1", "away 3 = 1");
  }

  private static void undone() {
    lieAlike(rows(), "put 0 0 2 1 = 6", "undo = 0");
    lieAlike(THREE, "put 0 0 2 1 = 6", "put 1 40 3 1 = 5", "put 3 100 5 1 = 10", "put 2 60 12 2 = 13", "undo = 3");
    lieAlike(THREE, "put 0 0 2 1 = 6", "put 1 40 3 1 = 5", "put 3 100 5 1 = 10", "away 0 = 1", "away 1 = 1", "undo = 4", "undo = 3");
    lieAlike(THREE, "put 0 0 2 1 = 6", "put 1 40 3 1 = 5", "put 3 100 5 1 = 10", "all 0 = 2", "undo = 3");
    lieAlike(THREE, "put 0 0 2 1 = 6", "put 1 40 3 1 = 5", "put 3 100 5 1 = 10", "four = 2", "undo = 3");
    lieAlike(THREE, "put 0 0 2 1 = 6", "put 1 40 3 1 = 5", "put 3 100 5 1 = 10", "squeeze = 2", "undo = 3");
    lieAlike(THREE, "put 0 0 2 1 = 6", "put 1 40 3 1 = 5", "put 3 100 5 1 = 10", "move 3 -10 8 = 14", "undo = 3");
    lieAlike(THREE, "put 0 0 2 1 = 6", "put 1 40 3 1 = 5", "put 3 100 5 1 = 10", "swap 0 1 = 7", "undo = 3");
  }

  private static void moved() {
    lieAlike(THREE, "put 0 90 12 1 = 16", "put 1 40 3 1 = 5", "move 0 -90 -10 = 6", "put 3 90 4 1 = 10", "move 3 10 1 = 10");
    lieAlike(THREE, "put 0 0 2 1 = 6", "put 1 40 3 1 = 5", "put 3 100 5 1 = 10", "move 1 5 9 = 14", "move 1 -5 -9 = 5");
    lieAlike(rows("put 1 40 4 2 = 5"), "put 1 41 3 2 = 4", "move 1 -1 1 = 5");
  }

  private static void swapped() {
    // b with two cranes lies at d's metre 100 from slot 5 on, d with one at 70 from slot 3 on
    lieAlike(rows("put 1 100 5 2 = 6", "put 3 70 3 1 = 10"), "put 1 70 3 2 = 4", "put 3 100 5 1 = 10", "swap 1 3 = 6");
    lieAlike(rows("put 1 100 5 2 = 6", "put 3 70 3 1 = 10"), "put 1 70 3 2 = 4", "put 3 100 5 1 = 10", "swap 3 1 = 10");
    lieAlike(THREE, "put 0 0 2 1 = 6", "put 1 40 3 1 = 5", "put 3 100 5 1 = 10", "swap 0 1 = 7", "swap 0 1 = 6");
  }

  private static void squeezed() {
    // b lies from slot 0 on, d as well: it works then, and leaves with the tide of slot 10
    lieAlike(rows("put 0 0 2 1 = 6", "put 1 40 0 1 = 2", "put 3 100 0 1 = 10"), "put 0 0 2 1 = 6", "put 1 40 3 1 = 5", "put 3 100 5 1 = 10",
        "squeeze = 2");
    lieAlike(rows("put 0 0 2 1 = 6", "put 4 0 1 1 = 2"), "put 0 0 20 1 = 24", "put 4 0 30 1 = 31", "squeeze = 2", "move 4 0 1 = 2");
  }

  private static void byItself() {
    lieAlike(rows("put 0 20 2 2 = 4"), "itself 0 = 2");
    lieAlike(rows("put 0 20 2 2 = 4", "put 1 60 2 1 = 4"), "itself 0 = 2", "itself 1 = 0", "away 1 = 1", "put 1 60 2 1 = 4");
  }

  private static void allAndFour() {
    // by rank: e in slot 0 with one crane, a with two, then b (two, beside e), c (two, in slot 1), d beside c
    lieAlike(rows("itself 4 = 0", "itself 0 = 2", "itself 1 = 0", "itself 2 = 1", "itself 3 = 1"), "all 0 = 5");
    // a is late by 1 at 8, d by 7 at 1, and nobody can do better: the order by numbers
    lieAlike(rows("put 4 0 0 1 = 1", "itself 0 = 2", "itself 1 = 0", "itself 2 = 1", "itself 3 = 1"), "put 4 0 0 1 = 1", "best 1 = 15", "four = 4");
  }

  private static void marks() {
    lieAlike(THREE, "put 0 0 2 1 = 6", "put 1 40 3 1 = 5", "put 3 100 5 1 = 10", "mark 2 = 3", "away 0 = 1", "move 1 3 3 = 8", "put 4 0 9 1 = 10",
        "back 2 = 3");
    lieAlike(rows(), "mark 0 = 0", "put 0 0 2 1 = 6", "put 1 40 3 1 = 5", "put 3 100 5 1 = 10", "back 0 = 0");
    lieAlike(THREE, "put 0 0 2 1 = 6", "put 1 40 3 1 = 5", "put 3 100 5 1 = 10", "mark 2 = 3", "back 2 = 3", "back 2 = 3");
  }

  private static void anotherText() {
    String[] other = {"put 4 0 0 1 = 1", "put 0 0 2 1 = 6", "mark 1 = 2", "best 1 = 7", "tape:" + HARBOUR, "text " + HARBOUR.length() + " = 19"};
    new Runs(CHECK, HARBOUR).answersAs(new Runs(CHECK, HARBOUR, other), "another text", "");
    String shorter = "quay 77;crane 5 70;ship z 20 9 8 7 6 5 1 1 1;";
    new Runs(CHECK, shorter).answersAs(new Runs(CHECK, HARBOUR, "put 0 0 2 1 = 6", "mark 3 = 1", "tape:" + shorter,
        "text " + shorter.length() + " = 3"), "a shorter text", "");
    new Runs(CHECK, "").answersAs(new Runs(CHECK, HARBOUR, "put 0 0 2 1 = 6", "mark 3 = 1", "text 0 = 0"), "a text without lines", "");
  }

  /** A MARK that was made ahead of a look at other stays: no SHIP has another STAY then. */
  private static void asksLeaveNoDifference() {
    for (String ask : new String[] {"breaks 2 62 3 1 = 0", "breaks 2 60 3 1 = 7", "breaks 2 62 3 2 = 8", "breaks 2 0 9 2 = 9", "put 2 0 9 2 = -10", "earliest 2 1 0",
      "earliest 2 2 1", "places 2 3 1 -1", "inWay 2 0 3 1", "hopeless", "best 0", "best 1", "slack 0", "slack 2", "along 0 1", "breaks 0 5 3 1",
      "places 0 3 1 -1", "earliest 0 2 0", "move 0 -1 0 = -2", "swap 0 2 = -1", "swap 1 3 = -7", "write", "works 0 3", "hours 0", "without 0"}) {
      String[] rows = {THREE[0], THREE[1], THREE[2], "mark 1 = 3", ask, "differs 1 = 0", "away 2 = 0", "count 10 = 3", "count 11 = 3"};
      new Runs(CHECK, HARBOUR).are(rows);
    }
    // a ship that had no stay by the mark, lay there and was taken away has none by both
    new Runs(CHECK, HARBOUR, "mark 0 = 0", "put 0 0 2 1 = 6", "differs 0 = 1", "away 0 = 1").are("differs 0 = 0", "itself 0 = 2", "differs 0 = 1",
        "undo = 2", "differs 0 = 0");
  }
}
