/** Promises 48 and 49: write, octet. */
public final class WrittenTest {
  private static final Check CHECK = new Check();

  public static void main(String[] args) {
    QuayBerths quay = Check.told("quay 999;crane 0 999;ship ab 10 0 0 0 0 0 0 1 8;ship abcdefgh 10 0 0 0 0 0 0 1 1;"
        + "ship z 10 0 0 0 0 0 0 1 1;");
    written(quay, "");
    quay.put(2, 989, 100, 1);
    quay.put(0, 0, 9, 1);
    CHECK.due("not written yet", quay.octet(0), -1);
    written(quay, "ab 0 9 1;z 989 100 1;");
    quay.put(1, 10, 99, 1);
    CHECK.due("written last", quay.octet(9), 'z');
    written(quay, "ab 0 9 1;abcdefgh 10 99 1;z 989 100 1;");
    CHECK.due("octet -1", quay.octet(-1), -1);
    CHECK.due("octet max", quay.octet(Integer.MAX_VALUE), -1);
    quay.away(0);
    written(quay, "abcdefgh 10 99 1;z 989 100 1;");
    quay.away(1);
    quay.away(2);
    written(quay, "");
    longest();
    CHECK.end();
  }

  private static void written(QuayBerths quay, String due) {
    CHECK.due("write", quay.write(), due.length());
    for (int i = 0; i < due.length(); i++) CHECK.due(due + " " + i, quay.octet(i), due.charAt(i));
    CHECK.due("behind it", quay.octet(due.length()), -1);
  }

  /** Fourteen ships with the longest names and numbers. */
  private static void longest() {
    StringBuilder text = new StringBuilder("quay 999;crane 0 999;");
    StringBuilder due = new StringBuilder();
    for (int i = 0; i < 14; i++) {
      text.append("ship abcdefg").append((char) ('a' + i)).append(" 10 0 0 0 0 0 0 1 1;");
      due.append("abcdefg").append((char) ('a' + i)).append(" 500 ").append(100 + i).append(" 1;");
    }
    QuayBerths quay = Check.told(text.toString());
    for (int i = 0; i < 14; i++) quay.put(i, 500, 100 + i, 1);
    written(quay, due.toString());
  }
}
