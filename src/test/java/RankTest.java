/** Promises 45 to 47: rank, leaver, meet. */
public final class RankTest {
  private static final Check CHECK = new Check();

  private static QuayBerths harbour() {
    QuayBerths quay = Check.told("quay 100;crane 0 99;crane 0 99;crane 0 99;ship a 10 0 0 60 0 2 1 1 1;ship b 10 0 0 36 0 0 1 1 1;"
        + "ship c 10 0 0 36 0 9 1 1 1;ship d 10 0 0 12 0 0 1 1 1;ship e 10 0 0 12 0 3 3 1 1;ship f 10 0 0 12 0 8 0 1 1;");
    // a leaves in 5, b in 8, c in 5, e in 8, f in 9; d has no stay
    CHECK.due("put a", quay.put(0, 0, 0, 1), 5);
    CHECK.due("put b", quay.put(1, 20, 5, 1), 8);
    CHECK.due("put c", quay.put(2, 40, 2, 1), 5);
    CHECK.due("put e", quay.put(4, 60, 7, 1), 8);
    CHECK.due("put f", quay.put(5, 60, 8, 1), 9);
    return quay;
  }

  public static void main(String[] args) {
    ranks();
    leavers();
    meetings();
    CHECK.end();
  }

  private static void ranks() {
    QuayBerths quay = harbour();
    // rank 1: a is 3 late, b 8, c not at all
    int[][] due = {{1, 1, 1, 1, 8}, {4, 3, 11, 8, 44}, {0, 0, 0, 0, 0}, {1, 1, 5, 5, 5}};
    for (int rank = 0; rank < 4; rank++) {
      for (int what = 0; what < 5; what++) CHECK.due("rank " + rank + " " + what, quay.rank(rank, what), due[rank][what]);
    }
    CHECK.due("what 5", quay.rank(1, 5), -1);
    CHECK.due("what -1", quay.rank(1, -1), -1);
    CHECK.due("rank 4", quay.rank(4, 0), -1);
    CHECK.due("rank -1", quay.rank(-1, 0), -1);
    QuayBerths two = Check.told("crane 0 9;ship a 10 0 0 12 5 1 2 1 1;");
    CHECK.due("no stay", two.rank(2, 2), 0);
    CHECK.due("no stay", two.rank(2, 1), 0);
    two.put(0, 0, 5, 1);
    CHECK.due("late", two.rank(2, 3), 5);
    CHECK.due("cost", two.rank(2, 4), 10);
  }

  private static void leavers() {
    QuayBerths quay = harbour();
    int[] due = {0, 2, 1, 4, 5, -2};
    for (int i = 0; i < due.length; i++) CHECK.due("leaver " + i, quay.leaver(i), due[i]);
    CHECK.due("leaver -1", quay.leaver(-1), -1);
    CHECK.due("leaver -2", quay.leaver(-2), -1);
    CHECK.due("leaver max", quay.leaver(Integer.MAX_VALUE), -2);
    quay.away(0);
    CHECK.due("leaver 0", quay.leaver(0), 2);
    CHECK.due("leaver 4", quay.leaver(4), -2);
  }

  private static void meetings() {
    QuayBerths quay = harbour();
    int[][] due = {{0, 1, 0}, {0, 2, 3}, {2, 0, 3}, {1, 4, 1}, {4, 5, 0}, {1, 5, 0}, {0, 3, 0}, {3, 0, 0}, {0, 0, -1},
      {3, 3, -1}, {0, 6, -1}, {6, 0, -1}, {-1, 0, -1}, {0, -1, -1}};
    for (int[] one : due) CHECK.due("meet " + one[0] + " " + one[1], quay.meet(one[0], one[1]), one[2]);
    // c waits for the tide of slot 20 while the other one works
    QuayBerths tide = Check.told("section 0 120;crane 0 299;tide 19 0;tide 20 10;tide 21 0;ship c 40 0 110 12 0 3 2 1 1;"
        + "ship b 20 0 0 120 0 9 1 1 1;");
    tide.put(0, 60, 10, 1);
    tide.put(1, 0, 15, 1);
    CHECK.due("meet", tide.meet(0, 1), 5);
  }
}
