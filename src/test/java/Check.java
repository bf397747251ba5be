/** Counts answers that are not as due, and feeds a text as a row of ints. */
public final class Check {
  private int answers = 0;
  private int wrong = 0;

  public void due(String call, long got, long want) {
    answers++;
    if (got != want) {
      wrong++;
      System.out.println(call + " answered " + got + ", due is " + want);
    }
  }

  public void due(String call, boolean got, boolean want) {
    due(call, got ? 1 : 0, want ? 1 : 0);
  }

  /** Feeds the text, filled up with blanks that text() is not given. */
  public static void feed(QuayBerths quay, String text) {
    for (int at = 0; at < text.length(); at += 20) {
      int[] five = words(text, at);
      quay.feed(five[0], five[1], five[2], five[3], five[4]);
    }
  }

  public static int[] words(String text, int at) {
    int[] five = new int[5];
    for (int i = 0; i < 20; i++) {
      int sign = at + i < text.length() ? text.charAt(at + i) : ' ';
      five[i / 4] = five[i / 4] << 8 | sign & 255;
    }
    return five;
  }

  public static int tell(QuayBerths quay, String text) {
    feed(quay, text);
    return quay.text(text.length());
  }

  public static QuayBerths told(String text) {
    QuayBerths quay = new QuayBerths();
    if (tell(quay, text) < 0) {
      throw new IllegalStateException("fault " + quay.fault(0) + " at " + quay.fault(1) + " of " + text);
    }
    return quay;
  }

  public void end() {
    System.out.println(wrong == 0 ? answers + " answers are as due" : wrong + " of " + answers + " answers are not as due");
    if (wrong != 0) System.exit(1);
  }
}
