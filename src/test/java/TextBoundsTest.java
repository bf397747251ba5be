/** The bounds that the document names for promises 1 to 4: the tape, the bytes of a TEXT, its FAULTS. */
public final class TextBoundsTest {
  private static final Check CHECK = new Check();
  private static final String SHIP_NUMBERS = " 1 0 0 0 0 0 0 1 1;";
  private static final String[] LINE_WORDS = "quay gap keel channel rate loss section crane tide gangs ship".split(" ");
  private static final String[] LINES = {"quay 60;", "gap 1;", "keel 1;", "channel 1;", "rate 1;", "loss 1;", "section 1 1;",
    "crane 1 1;", "tide 1 1;", "gangs 1 1 1;", "ship a 1 0 0 0 0 0 0 1 1;"};

  /** A LINE with * for a NUMBER, and that NUMBER's bounds. */
  private record Bound(String line, int least, int greatest) {}

  private static final Bound[] BOUNDS = {
    new Bound("quay *;", 50, 999),
    new Bound("gap *;", 0, 50),
    new Bound("keel *;", 0, 30),
    new Bound("channel *;", 0, 300),
    new Bound("rate *;", 1, 99),
    new Bound("loss *;", 0, 10),
    new Bound("section * 5;", 0, 999),
    new Bound("section 5 *;", 0, 300),
    new Bound("crane * 999;", 0, 999),
    new Bound("crane 0 *;", 0, 999),
    new Bound("crane 500 *;", 500, 999),
    new Bound("crane 999 *;", 999, 999),
    new Bound("tide * 5;", 0, 335),
    new Bound("tide 5 *;", 0, 99),
    new Bound("gangs * 0 0;", 0, 6),
    new Bound("gangs 0 * 0;", 0, 2),
    new Bound("gangs 0 0 *;", 0, 9),
    new Bound("ship a * 0 0 0 0 0 0 1 1;", 1, 400),
    new Bound("ship a 1 * 0 0 0 0 0 1 1;", 0, 300),
    new Bound("ship a 1 0 * 0 0 0 0 1 1;", 0, 300),
    new Bound("ship a 1 0 0 * 0 0 0 1 1;", 0, 9999),
    new Bound("ship a 1 0 0 0 * 0 0 1 1;", 0, 335),
    new Bound("ship a 1 0 0 0 0 * 0 1 1;", 0, 999),
    new Bound("ship a 1 0 0 0 0 0 * 1 1;", 0, 3),
    new Bound("ship a 1 0 0 0 0 0 0 * 8;", 1, 8),
    new Bound("ship a 1 0 0 0 0 0 0 1 *;", 1, 8),
    new Bound("ship a 1 0 0 0 0 0 0 5 *;", 5, 8),
    new Bound("ship a 1 0 0 0 0 0 0 8 *;", 8, 8),
  };

  public static void main(String[] args) {
    feedsUpToTheEndOfTheTape();
    bytesOfAnInt();
    howManyBytesOfTheTape();
    newObjectIsAsBehindNoLines();
    everyNumber();
    numbersAsTheyAreHeld();
    rowsOfDigits();
    howManyNumbers();
    lineWords();
    rowsOfLetters();
    names();
    everyByteInEveryPlace();
    blanks();
    endOfTheText();
    toldAlready();
    oneTooMany();
    leastFaultOfOneByte();
    firstFaultFromTheLeft();
    fullText();
    latestText();
    CHECK.end();
  }

  private static void good(String text, int lines) {
    QuayBerths quay = new QuayBerths();
    CHECK.due(text, Check.tell(quay, text), lines);
    CHECK.due("no fault of " + text, quay.fault(0), 0);
    CHECK.due("no place of " + text, quay.fault(1), -1);
  }

  private static void fault(String text, int fault, int place) {
    QuayBerths quay = new QuayBerths();
    CHECK.due(text, Check.tell(quay, text), -1);
    CHECK.due("fault of " + text, quay.fault(0), fault);
    CHECK.due("place of " + text, quay.fault(1), place);
  }

  /** "how many it has; NONE if that would be more than 1200" */
  private static void feedsUpToTheEndOfTheTape() {
    QuayBerths quay = new QuayBerths();
    StringBuilder text = new StringBuilder("gap 7;");
    while (text.length() < 1199) text.append(' ');
    text.append('x');
    for (int i = 0; i < 60; i++) {
      int[] five = Check.words(text.toString(), 20 * i);
      CHECK.due("feed " + i, quay.feed(five[0], five[1], five[2], five[3], five[4]), 20 * i + 20);
      CHECK.due("tape " + i, quay.count(13), 20 * i + 20);
    }
    for (int i = 0; i < 3; i++) {
      CHECK.due("1220 would be too many", quay.feed(0x20202020, 0x20202020, 0x20202020, 0x20202020, 0x20202020), -1);
      CHECK.due("the tape stays", quay.count(13), 1200);
    }
    CHECK.due("its last byte is wrong", quay.text(1200), -1);
    CHECK.due("fault", quay.fault(0), 1);
    CHECK.due("place", quay.fault(1), 1199);
    CHECK.due("the tape is empty", quay.count(13), 0);
    CHECK.due("it has room again", quay.feed(0, 0, 0, 0, 0), 20);
    Check.feed(quay, text.substring(0, 1180));
    CHECK.due("full", quay.count(13), 1200);
    CHECK.due("full", quay.feed(0, 0, 0, 0, 0), -1);
    CHECK.due("it begins with what was fed first", quay.text(1200), -1);
    CHECK.due("place", quay.fault(1), 0);
  }

  /** "Twenty bytes come behind the tape, the highest of each int first" */
  private static void bytesOfAnInt() {
    String text = "rate\n13 ;keel 14;\n\n\n";
    CHECK.due("twenty bytes", text.length(), 20);
    QuayBerths quay = new QuayBerths();
    quay.feed(0x72617465, 0x0a313320, 0x3b6b6565, 0x6c203134, 0x3b0a0a0a);
    CHECK.due("lines", quay.text(20), 2);
    CHECK.due("rate", quay.count(4), 13);
    CHECK.due("keel", quay.count(2), 14);
    for (int i = 0; i < 20; i++) {
      // a byte above 127 makes the int it is the highest of negative
      int[] five = Check.words(text.substring(0, i) + "\u00ff" + text.substring(i + 1), 0);
      quay.feed(five[0], five[1], five[2], five[3], five[4]);
      CHECK.due("byte 255 at " + i, quay.text(20), -1);
      // within a WORD it makes the WORD wrong, which begins at 0 or 9
      CHECK.due("place of byte 255 at " + i, quay.fault(1), i < 4 ? 0 : i > 8 && i < 13 ? 9 : i);
    }
  }

  /** "-2: it has not so many, k is below 0 (the tape stays)" */
  private static void howManyBytesOfTheTape() {
    QuayBerths quay = new QuayBerths();
    for (int k : new int[] {1, 2, 20, 1200, 1201, Integer.MAX_VALUE, -1, -2, -20, Integer.MIN_VALUE}) {
      CHECK.due("nothing fed: text " + k, quay.text(k), -2);
    }
    CHECK.due("0 of nothing", quay.text(0), 0);
    Check.feed(quay, "gap 5;              keel 6; ");
    for (int k : new int[] {41, 42, 60, 1200, Integer.MAX_VALUE, -1, -2, -40, Integer.MIN_VALUE, Integer.MIN_VALUE + 6}) {
      CHECK.due("text " + k, quay.text(k), -2);
      CHECK.due("the tape stays", quay.count(13), 40);
      CHECK.due("no gap yet", quay.count(1), 0);
    }
    CHECK.due("all 40", quay.text(40), 2);
    CHECK.due("gap", quay.count(1), 5);
    CHECK.due("keel", quay.count(2), 6);
    CHECK.due("the tape is empty", quay.count(13), 0);
    CHECK.due("no more bytes", quay.text(1), -2);
    Check.feed(quay, "gap 5;              keel 6; ");
    CHECK.due("the first 6", quay.text(6), 1);
    CHECK.due("no keel", quay.count(2), 0);
    CHECK.due("the tape is empty, not 34 long", quay.count(13), 0);
    CHECK.due("no more bytes", quay.text(1), -2);
    Check.feed(quay, "gap 8;");
    CHECK.due("0 of 20", quay.text(0), 0);
    CHECK.due("no gap", quay.count(1), 0);
    CHECK.due("the tape is empty", quay.count(13), 0);
  }

  private static void newObjectIsAsBehindNoLines() {
    String[] calls = {"count 0 = 300", "count 1 = 0", "count 2 = 0", "count 3 = 100", "count 4 = 12", "count 5 = 0",
      "count 6 = 0", "count 7 = 0", "count 8 = 0", "count 9 = 0", "count 10 = 0", "count 11 = 0", "count 12 = 0",
      "count 13 = 0", "count 14 = 0", "count 15 = 0", "fault 0 = 0", "fault 1 = -1", "depth 0 = 100", "depth 299 = 100",
      "depth 300 = -1", "shallow 0 299 = 100", "level 0 = 0", "level 335 = 0", "gangs 0 0 = 0", "gangs 6 2 = 0",
      "crane 0 0 = -1", "ship 0 0 = -1", "letter 0 0 = -1", "moves 1 = 12", "moves 8 = 96", "open 100 335 = 1",
      "open 101 335 = 0", "tide 0 335 0 = 0", "tide 0 335 3 = 0", "breaks 0 0 0 1 = -1", "put 0 0 0 1 = -1", "itself 0 = -1",
      "away 0 = 0", "squeeze = -1", "hopeless = 0", "order 0 0 = -2", "all 0 = -2", "best 0 = -1", "four = -1",
      "at 0 0 = -2", "lies 0 -1 = 0", "free 335 0 = 300", "works 0 0 = -1", "hours 0 = -1", "without 0 = -1",
      "shift 6 2 3 = 0", "used 6 = 0", "rank 3 0 = 0", "leaver 0 = -2", "meet 0 1 = -1", "write = 0", "octet 0 = -1",
      "differs 0 = -1", "undo = -1", "back 0 = -1"};
    new Runs(CHECK, "").are(calls);
    new Runs(CHECK, "", "text 0 = 0").are(calls);
    new Runs(CHECK, "", "tape:  \n", "text 3 = 0").are(calls);
    new Runs(CHECK, "quay 99;gap 9;keel 9;channel 9;rate 9;loss 9;section 0 9;crane 0 9;tide 0 9;gangs 0 0 9;ship a"
        + SHIP_NUMBERS, "mark 0 = 0", "tape:x", "text 1 = -1", "text 0 = 0").are(calls);
  }

  /** Every NUMBER of every LINE with every value of up to four digits. */
  private static void everyNumber() {
    for (Bound bound : BOUNDS) {
      int place = bound.line.indexOf('*');
      QuayBerths quay = null;
      for (int value = 0; value <= 9999; value++) {
        if (value % 50 == 0) quay = new QuayBerths();
        boolean within = value >= bound.least && value <= bound.greatest;
        String text = bound.line.replace("*", Integer.toString(value));
        CHECK.due(text, Check.tell(quay, text), within ? 1 : -1);
        CHECK.due("fault of " + text, quay.fault(0), within ? 0 : 2);
        CHECK.due("place of " + text, quay.fault(1), within ? -1 : place);
      }
    }
  }

  /** The least and the greatest of each NUMBER are taken as they are, with 0 ahead of them, too. */
  private static void numbersAsTheyAreHeld() {
    String[][] heldBy = {{"quay *;", "count 0"}, {"gap *;", "count 1"}, {"keel *;", "count 2"}, {"channel *;", "count 3"},
      {"rate *;", "count 4"}, {"loss *;", "count 5"}, {"section 5 *;", "depth 5"}, {"crane * 999;", "crane 0 0"},
      {"crane 0 *;", "crane 0 1"}, {"crane 500 *;", "crane 0 1"}, {"tide 5 *;", "level 5"}, {"gangs 0 0 *;", "gangs 0 0"},
      {"ship a * 0 0 0 0 0 0 1 1;", "ship 0 0"}, {"ship a 1 * 0 0 0 0 0 1 1;", "ship 0 1"},
      {"ship a 1 0 * 0 0 0 0 1 1;", "ship 0 2"}, {"ship a 1 0 0 * 0 0 0 1 1;", "ship 0 3"},
      {"ship a 1 0 0 0 * 0 0 1 1;", "ship 0 4"}, {"ship a 1 0 0 0 0 * 0 1 1;", "ship 0 5"},
      {"ship a 1 0 0 0 0 0 * 1 1;", "ship 0 6"}, {"ship a 1 0 0 0 0 0 0 * 8;", "ship 0 7"},
      {"ship a 1 0 0 0 0 0 0 1 *;", "ship 0 8"}};
    for (String[] pair : heldBy) {
      for (Bound bound : BOUNDS) {
        if (!bound.line.equals(pair[0])) continue;
        for (int value : new int[] {bound.least, bound.greatest}) {
          new Runs(CHECK, bound.line.replace("*", Integer.toString(value))).are(pair[1] + " = " + value);
          new Runs(CHECK, bound.line.replace("*", String.format("%04d", value))).are(pair[1] + " = " + value);
        }
      }
    }
  }

  /** "NUMBERS: 1 to 4 digits"; "a row of more ... digits, too, at its first byte" */
  private static void rowsOfDigits() {
    for (Bound bound : BOUNDS) {
      int place = bound.line.indexOf('*');
      for (String row : new String[] {"00000", "00001", "00008", "00060", "00999", "10000", "99999", "000000", "4294967301",
        "4294967346", "00000000000000000001"}) {
        fault(bound.line.replace("*", row), 1, place);
      }
      fault(bound.line.replace("*", "x"), 1, place);
      fault(bound.line.replace("*", "-1"), 1, place);
      fault(bound.line.replace("*", "+1"), 1, place);
    }
  }

  /** Each LINE with a NUMBER too few, and with one too many. */
  private static void howManyNumbers() {
    for (String line : LINES) {
      int last = line.lastIndexOf(' ');
      fault(line.substring(0, last) + ";", 1, last);
      fault(line.substring(0, last) + " ;", 1, last + 1);
      fault(line.replace(";", " 1;"), 1, line.length());
      fault(line.replace(";", ""), 1, line.length() - 1);
    }
  }

  private static void lineWords() {
    for (int i = 0; i < LINE_WORDS.length; i++) {
      String word = LINE_WORDS[i];
      String rest = LINES[i].substring(word.length());
      good(LINES[i], 1);
      fault(word.substring(0, word.length() - 1) + rest, 1, 0);
      fault(word.substring(1) + rest, 1, 0);
      fault(word + "s" + rest, 1, 0);
      fault("s" + word + rest, 1, 0);
      fault(word.toUpperCase() + rest, 1, 0);
      fault(word.substring(0, 1) + " " + word.substring(1) + rest, 1, 0);
      // a NUMBER, a ; and another WORD where this WORD has to be
      fault("1 " + LINES[i], 1, 0);
      fault(";" + LINES[i], 1, 0);
      fault("a " + LINES[i], 1, 0);
      // the WORD where a NUMBER or ; has to be
      fault("gangs 1 1 " + LINES[i], 1, 10);
      fault("gangs 1 1 1 " + LINES[i], 1, 12);
    }
  }

  /** "WORDS: letters a to z (1 to 8)"; "a row of more letters ... at its first byte" */
  private static void rowsOfLetters() {
    for (String row : new String[] {"a", "abcdefgh", "abcdefghi", "zzzzzzzzzzzzzzzzzzzz", "quayquay", "quayquayq"}) {
      fault(row, 1, 0);
      fault(row + " 60;", 1, 0);
      fault("gap 1;" + row + " 60;", 1, 6);
      fault("gap 1; " + row, 1, 7);
    }
    for (String row : new String[] {"a", "z", "az", "abcdefgh", "zzzzzzzz"}) good("ship " + row + SHIP_NUMBERS, 1);
    for (String row : new String[] {"abcdefghi", "zzzzzzzzz", "abcdefghijklmnopqrst", "quayquayq"}) {
      fault("ship " + row + SHIP_NUMBERS, 1, 5);
      fault("ship \n" + row, 1, 6);
    }
  }

  /** "NAME: a WORD that begins no LINE" */
  private static void names() {
    for (String word : LINE_WORDS) {
      fault("ship " + word + SHIP_NUMBERS, 1, 5);
      fault("ship  " + word, 1, 6);
      if (word.length() < 8) good("ship " + word + "s" + SHIP_NUMBERS, 1);
      good("ship " + word.substring(1) + SHIP_NUMBERS, 1);
      good("ship " + word.substring(0, word.length() - 1) + SHIP_NUMBERS, 1);
    }
    for (String sign : new String[] {"1", ";", "A", "_", "-", "\u00e9", "\u0000"}) fault("ship " + sign + "a" + SHIP_NUMBERS, 1, 5);
    fault("ship aB" + SHIP_NUMBERS, 1, 6);
    fault("ship a;", 1, 6);
    fault("ship a a" + SHIP_NUMBERS, 1, 7);
    // letters 1 to 26, then 0
    new Runs(CHECK, "ship abcdefgh" + SHIP_NUMBERS + "ship z" + SHIP_NUMBERS + "ship ijklmnop" + SHIP_NUMBERS + "ship qrstuvwx"
        + SHIP_NUMBERS).are("letter 0 0 = 1", "letter 0 7 = 8", "letter 1 0 = 26", "letter 1 1 = 0", "letter 1 7 = 0",
        "letter 2 0 = 9", "letter 2 7 = 16", "letter 3 0 = 17", "letter 3 7 = 24");
  }

  private static boolean isLetter(int sign) {
    return sign >= 'a' && sign <= 'z';
  }

  private static boolean isDigit(int sign) {
    return sign >= '0' && sign <= '9';
  }

  private static boolean isBlank(int sign) {
    return sign == 32 || sign == 10;
  }

  /** "quay 60;" with each of 256 bytes in the place of its first letter, its blank, its first digit, its ; and behind it. */
  private static void everyByteInEveryPlace() {
    for (int sign = 0; sign < 256; sign++) {
      char put = (char) sign;
      String letter = put + "uay 60;";
      if (sign == 'q') good(letter, 1);
      else fault(letter, 1, isBlank(sign) ? 1 : 0);
      String blank = "quay" + put + "60;";
      if (isBlank(sign)) good(blank, 1);
      else fault(blank, 1, isLetter(sign) ? 0 : 4);
      String digit = "quay " + put + "0;";
      if (sign >= '5' && sign <= '9') good(digit, 1);
      else if (isDigit(sign)) fault(digit, 2, 5);
      else if (isBlank(sign)) fault(digit, 2, 6);
      else fault(digit, 1, 5);
      String second = "quay 60" + put;
      if (sign == ';') good(second, 1);
      else fault(second, 1, isDigit(sign) || isBlank(sign) ? 8 : 7);
      String behind = "quay 60;" + put;
      if (isBlank(sign)) good(behind, 1);
      else fault(behind, 1, 8);
      String name = "ship a" + put + SHIP_NUMBERS;
      if (isLetter(sign) || isBlank(sign)) good(name, 1);
      else fault(name, 1, 6);
    }
  }

  /** "blanks ... between WORDS, NUMBERS as one likes; at least one between two of them" */
  private static void blanks() {
    good("quay                60;", 1);
    good("quay\n\n\n60 \n ;gap\n0\n;", 2);
    good("section\n1 \n2;section  2\n\n3\n;", 2);
    good("gangs 0 0 0;gangs 0 1 0;", 2);
    good("ship\na\n1\n0\n0\n0\n0\n0\n0\n1\n1\n;", 1);
    fault("quay60;", 1, 4);
    fault("section1 2;", 1, 7);
    fault("section 12;", 1, 10);
    fault("ship a1" + SHIP_NUMBERS, 1, 6);
    fault("shipa" + SHIP_NUMBERS, 1, 0);
    fault("quay 6 0;", 2, 5);
    fault("quay 60 0;", 1, 8);
    fault("qu ay 60;", 1, 0);
  }

  /** "the end: at the length": every beginning of a TEXT. */
  private static void endOfTheText() {
    String text = "gap 7; quay 100 ;ship ab 10 20 30 40 5 60 1 2 3;";
    for (int k = 0; k <= text.length(); k++) {
      String begin = text.substring(0, k);
      if (k == 0) good(begin, 0);
      else if (k < 3) fault(begin, 1, 0);
      else if (k < 6) fault(begin, 1, k);
      else if (k < 8) good(begin, 1);
      else if (k < 11) fault(begin, 1, 7);
      else if (k < 13) fault(begin, 1, k);
      // 1 and 10 are below 50
      else if (k < 15) fault(begin, 2, 12);
      else if (k < 17) fault(begin, 1, k);
      else if (k == 17) good(begin, 2);
      else if (k < 21) fault(begin, 1, 17);
      else if (k < 48) fault(begin, 1, k);
      else good(begin, 3);
    }
    CHECK.due("so long is the text", text.length(), 48);
    fault("crane 10 99", 1, 11);
    fault("crane 10 9", 2, 9);
    fault("crane 10 \n ", 1, 11);
  }

  /** "3 it was told already" */
  private static void toldAlready() {
    for (int i = 0; i < 6; i++) {
      String line = LINES[i];
      fault(line + line, 3, line.length());
      fault(line + " \n" + line, 3, line.length() + 2);
      fault(line + "section 1 1;" + LINE_WORDS[i], 3, line.length() + 12);
      fault(line + LINE_WORDS[i] + " 9999;", 3, line.length());
      for (int j = 0; j < 6; j++) if (j != i) good(line + LINES[j], 2);
    }
    for (int metre : new int[] {0, 1, 298, 998, 999}) {
      fault("section " + metre + " 1;section 0" + metre + " 2;", 3, ("section " + metre + " 1;section ").length());
      good("section " + metre + " 1;section " + (metre == 999 ? 998 : metre + 1) + " 1;", 2);
    }
    for (int slot : new int[] {0, 1, 334, 335}) {
      fault("tide " + slot + " 1;tide 0" + slot + " 2;", 3, ("tide " + slot + " 1;tide ").length());
      good("tide " + slot + " 1;tide " + (slot == 335 ? 334 : slot + 1) + " 1;", 2);
    }
    for (int told = 0; told < 21; told++) {
      for (int again = 0; again < 21; again++) {
        String text = "gangs " + told / 3 + " " + told % 3 + " 0;gangs " + again / 3 + " " + again % 3 + " 9;";
        if (told == again) fault(text, 3, 20);
        else good(text, 2);
      }
    }
    good("crane 1 1;crane 1 1;", 2);
    String first = "ship abcdefgh" + SHIP_NUMBERS;
    fault(first + first, 3, first.length() + 5);
    for (String other : new String[] {"abcdefg", "bbcdefgh", "abcdefgi", "a"}) good(first + "ship " + other + SHIP_NUMBERS, 2);
    fault("ship a" + SHIP_NUMBERS + "ship b" + SHIP_NUMBERS + "ship b" + SHIP_NUMBERS, 3, 55);
    fault("ship a" + SHIP_NUMBERS + "ship b" + SHIP_NUMBERS + "ship a" + SHIP_NUMBERS, 3, 55);
    good("ship a" + SHIP_NUMBERS + "ship aa" + SHIP_NUMBERS, 2);
    // told by a LINE of another TEXT does not count
    new Runs(CHECK, "quay 60;tide 1 1;ship a" + SHIP_NUMBERS, "tape:quay 60;tide 1 1;ship a" + SHIP_NUMBERS, "text 42 = 3",
        "tape:quay 61;quay 60;", "text 16 = -1", "tape:quay 62;", "text 8 = 1").are("count 0 = 62");
    // nor do the ships of another TEXT that were behind these
    String three = "ship x" + SHIP_NUMBERS + "ship y" + SHIP_NUMBERS + "ship a" + SHIP_NUMBERS;
    String two = "ship a" + SHIP_NUMBERS + "ship a" + SHIP_NUMBERS;
    new Runs(CHECK, three, "tape:" + two, "text 50 = -1").are("fault 0 = 3", "fault 1 = 30", "tape:" + two.replace("ship a", "ship z"),
        "text 25 = 1", "count 9 = 1", "letter 0 0 = 26", "letter 1 0 = -1");
  }

  private static String rows(int n, String line) {
    StringBuilder all = new StringBuilder();
    for (int i = 0; i < n; i++) all.append(line.replace("*", Integer.toString(10 + i)).replace("@", Character.toString('a' + i)));
    return all.toString();
  }

  /** "4 one too many (at section, crane, tide, ship)" */
  private static void oneTooMany() {
    String[] kinds = {"section * 5;", "crane 0 *;", "tide * 5;", "ship @" + SHIP_NUMBERS};
    int[] most = {8, 8, 30, 14};
    for (int i = 0; i < kinds.length; i++) {
      String full = rows(most[i], kinds[i]);
      String word = kinds[i].substring(0, kinds[i].indexOf(' '));
      good(rows(most[i] - 1, kinds[i]), most[i] - 1);
      good(full, most[i]);
      fault(rows(most[i] + 1, kinds[i]), 4, full.length());
      fault(full + word, 4, full.length());
      fault(full + " " + word + " x", 4, full.length() + 1);
      fault(full + word + "9999", 4, full.length());
      fault(full + word + "s", 1, full.length());
      for (int j = 0; j < kinds.length; j++) if (j != i) good(full + rows(1, kinds[j]), most[i] + 1);
    }
    // there is no limit of gangs but that each is told once
    StringBuilder gangs = new StringBuilder();
    for (int shift = 0; shift < 21; shift++) gangs.append("gangs " + shift / 3 + " " + shift % 3 + " 1;");
    good(gangs.toString(), 21);
    fault(gangs + "gangs 6 2 1;", 3, 21 * 12 + 8);
  }

  /** "of one byte the least" */
  private static void leastFaultOfOneByte() {
    // more digits than four, and out of bounds, and told already
    fault("quay 99999;", 1, 5);
    fault("tide 1 1;tide 00001 1;", 1, 14);
    fault("gangs 1 1 1;gangs 1 00001 1;", 1, 20);
    // a WORD that can't stand there is not one too many, nor told already
    fault(rows(8, "section * 5;") + "tide section 6;", 1, 109);
    fault("quay 60 quay 60;", 1, 8);
    fault("ship a" + SHIP_NUMBERS + "ship ship" + SHIP_NUMBERS, 1, 30);
    // a NUMBER without a blank ahead can't stand there, in its bounds or not
    fault("quay60;", 1, 4);
    fault("quay1;", 1, 4);
    fault("crane 5x4;", 1, 7);
  }

  /** "the first byte from the left" */
  private static void firstFaultFromTheLeft() {
    fault("quay 60;quay x;", 3, 8);
    fault("quay 49;quay 60;", 2, 5);
    fault("quay 49 x", 2, 5);
    fault("crane 9 8 7;crane", 2, 8);
    fault("section 1 1;section 1 301;", 3, 20);
    fault("section 1 1;section 2 301;", 2, 22);
    fault("gangs 1 1 1;gangs 1 1 10;", 3, 20);
    fault("gangs 1 1 1;gangs 7 1 10;", 2, 18);
    fault("ship a" + SHIP_NUMBERS + "ship a 0;", 3, 30);
    fault("ship a 0 301;", 2, 7);
    fault("ship a 1 0 0 0 0 0 0 9 8;", 2, 21);
    fault(rows(14, "ship @" + SHIP_NUMBERS) + "ship quay", 4, 350);
    fault("quay 60;gap 51;keel 31;", 2, 12);
  }

  /** All that can be told at once, 8 sections, 8 cranes, 30 tides, 21 gangs and 14 ships, in 1200 bytes. */
  private static void fullText() {
    StringBuilder text = new StringBuilder("quay 99;gap 0;keel 0;channel 9;rate 1;loss 0;");
    for (int i = 0; i < 8; i++) text.append("section ").append(i).append(" ").append(i).append(";crane 0 ").append(i).append(";");
    for (int i = 0; i < 30; i++) text.append("tide ").append(i).append(" ").append(i % 10).append(";");
    for (int shift = 0; shift < 21; shift++) text.append("gangs " + shift / 3 + " " + shift % 3 + " " + shift % 9 + ";");
    for (int i = 0; i < 14; i++) text.append("ship ").append((char) ('a' + i)).append(" 1 0 0 0 0 0 0 1 1;");
    while (text.length() < 1200) text.append(' ');
    CHECK.due("it has room on the tape", text.length(), 1200);
    new Runs(CHECK, text.toString()).are("fault 0 = 0", "count 6 = 8", "count 7 = 8", "count 8 = 30", "count 9 = 14",
        "depth 7 = 7", "depth 98 = 7", "crane 7 1 = 7", "level 29 = 9", "gangs 6 2 = 2", "gangs 5 2 = 8", "letter 13 0 = 14",
        "count 13 = 0");
    CHECK.due("lines", Check.tell(new QuayBerths(), text.toString()), 6 + 16 + 30 + 21 + 14);
  }

  /** "Of the latest text() that was not -2" */
  private static void latestText() {
    Runs faulty = new Runs(CHECK, "", "tape: gap 51;", "text 8 = -1");
    faulty.bounds("fault *", 0, 1);
    faulty.are("fault 0 = 2", "fault 1 = 5", "text 1 = -2", "text -1 = -2", "text min = -2", "text max = -2", "fault 0 = 2",
        "fault 1 = 5", "tape:;", "fault 0 = 2", "text 1 = -1", "fault 0 = 1", "fault 1 = 0", "text 0 = 0", "fault 0 = 0",
        "fault 1 = -1", "fault 2 = -1");
    new Runs(CHECK, "gap 1;", "text 9 = -2").are("fault 0 = 0", "fault 1 = -1");
  }
}
