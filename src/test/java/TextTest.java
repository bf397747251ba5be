/** Promises 1 to 4: a new object, feed, text, fault. */
public final class TextTest {
  private static final Check CHECK = new Check();
  private static final String SHIP_NUMBERS = " 1 0 0 0 0 0 0 1 1;";

  public static void main(String[] args) {
    newObject();
    feeding();
    tapeAndText();
    faultChangesNothing();
    textBeginsAnew();
    goodTexts();
    faultsOfSigns();
    faultsOfBounds();
    faultsOfShips();
    toldAlready();
    oneTooMany();
    CHECK.end();
  }

  private static void newObject() {
    QuayBerths made = new QuayBerths();
    QuayBerths told = new QuayBerths();
    Check.tell(told, "quay 77;crane 0 9;tide 3 4;section 0 7;gangs 0 0 5;ship a" + SHIP_NUMBERS);
    told.put(0, 0, 0, 1);
    told.mark(2);
    CHECK.due("text(0)", told.text(0), 0);
    for (QuayBerths quay : new QuayBerths[] {made, told}) {
      int[] counts = {300, 0, 0, 100, 12, 0, 0, 0, 0, 0, 0, 0, 0, 0, 0, 0, -1};
      for (int what = 0; what < counts.length; what++) CHECK.due("new count " + what, quay.count(what), counts[what]);
      CHECK.due("new depth", quay.depth(299), 100);
      CHECK.due("new level", quay.level(335), 0);
      CHECK.due("new gangs", quay.gangs(0, 0), 0);
      CHECK.due("new fault", quay.fault(0), 0);
      CHECK.due("new place", quay.fault(1), -1);
      CHECK.due("new differs", quay.differs(2), -1);
      CHECK.due("new undo", quay.undo(), -1);
      CHECK.due("new octet", quay.octet(0), -1);
    }
  }

  private static void feeding() {
    QuayBerths quay = new QuayBerths();
    for (int i = 1; i <= 60; i++) CHECK.due("feed " + i, quay.feed(i, i, i, i, i), 20 * i);
    CHECK.due("feed 61", quay.feed(1, 2, 3, 4, 5), -1);
    CHECK.due("tape", quay.count(13), 1200);
    CHECK.due("text(1201)", quay.text(1201), -2);
    CHECK.due("tape stays", quay.count(13), 1200);
    CHECK.due("text(1200)", quay.text(1200), -1);
    CHECK.due("tape is empty", quay.count(13), 0);
    CHECK.due("feed", quay.feed(0x71756179, 0x20363b67, 0x61702037, 0x3b202020, 0x7fffffff), 20);
    CHECK.due("bytes in their order", quay.text(13), -1);
    CHECK.due("quay 6 is out of bounds", quay.fault(0), 2);
    CHECK.due("its place", quay.fault(1), 5);
    quay.feed(0x71756179, 0x2036313b, 0x67617020, 0x373b2020, 0x80ff00ff);
    CHECK.due("text(14)", quay.text(14), 2);
    CHECK.due("quay", quay.count(0), 61);
    CHECK.due("gap", quay.count(1), 7);
  }

  private static void tapeAndText() {
    QuayBerths quay = new QuayBerths();
    CHECK.due("text(-1)", quay.text(-1), -2);
    CHECK.due("text(1)", quay.text(1), -2);
    CHECK.due("text(min)", quay.text(Integer.MIN_VALUE), -2);
    CHECK.due("text(max)", quay.text(Integer.MAX_VALUE), -2);
    Check.feed(quay, "quay 90;gap 3;");
    CHECK.due("text(-1)", quay.text(-1), -2);
    CHECK.due("text(21)", quay.text(21), -2);
    CHECK.due("tape", quay.count(13), 20);
    CHECK.due("the first 8 bytes", quay.text(8), 1);
    CHECK.due("quay", quay.count(0), 90);
    CHECK.due("no gap", quay.count(1), 0);
    CHECK.due("tape is empty", quay.count(13), 0);
    CHECK.due("text(1)", quay.text(1), -2);
    Check.feed(quay, "gap 3;");
    CHECK.due("text(20)", quay.text(20), 1);
    CHECK.due("quay", quay.count(0), 300);
    CHECK.due("gap", quay.count(1), 3);
    Check.feed(quay, "gap x;");
    CHECK.due("text(6)", quay.text(6), -1);
    CHECK.due("a fault empties it, too", quay.count(13), 0);
    CHECK.due("fault", quay.fault(0), 1);
    CHECK.due("text(99)", quay.text(99), -2);
    CHECK.due("-2 leaves the fault", quay.fault(0), 1);
    CHECK.due("-2 leaves its place", quay.fault(1), 4);
    CHECK.due("fault(2)", quay.fault(2), -1);
    CHECK.due("fault(-1)", quay.fault(-1), -1);
    CHECK.due("text(0)", quay.text(0), 0);
    // what stands behind the text on the tape is not read
    Check.feed(quay, "quay 60;");
    CHECK.due("without its ;", quay.text(7), -1);
    CHECK.due("place", quay.fault(1), 7);
    Check.feed(quay, "quay 601;");
    CHECK.due("without its last digit", quay.text(7), -1);
    CHECK.due("place", quay.fault(1), 7);
    Check.feed(quay, "quays;");
    CHECK.due("without its last letter", quay.text(4), -1);
    CHECK.due("place", quay.fault(1), 4);
    CHECK.due("text(0)", quay.text(0), 0);
    CHECK.due("no fault", quay.fault(0), 0);
    CHECK.due("no place", quay.fault(1), -1);
  }

  private static void faultChangesNothing() {
    QuayBerths quay = Check.told("quay 90;crane 0 89;ship a 10 9 9 12 0 9 0 1 1;ship b" + SHIP_NUMBERS);
    CHECK.due("put", quay.put(0, 20, 3, 1), 4);
    CHECK.due("mark", quay.mark(1), 1);
    CHECK.due("put", quay.put(1, 0, 0, 1), 1);
    CHECK.due("a fault", Check.tell(quay, "quay 80;gap 9;keel 3;section 0 5;crane 1 2;tide 0 9;gangs 0 0 7;"
        + "ship c 20 8 8 8 8 8 1 2 2;ship d 2;"), -1);
    CHECK.due("quay", quay.count(0), 90);
    CHECK.due("gap", quay.count(1), 0);
    CHECK.due("keel", quay.count(2), 0);
    CHECK.due("sections", quay.count(6), 0);
    CHECK.due("crane", quay.crane(0, 1), 89);
    CHECK.due("tides", quay.count(8), 0);
    CHECK.due("level", quay.level(5), 0);
    CHECK.due("gangs", quay.gangs(0, 0), 1);
    CHECK.due("ship", quay.ship(0, 0), 10);
    CHECK.due("letter", quay.letter(0, 0), 1);
    CHECK.due("stays", quay.count(10), 2);
    CHECK.due("x", quay.ship(0, 9), 20);
    CHECK.due("acts", quay.count(11), 2);
    CHECK.due("marks", quay.count(12), 1);
    CHECK.due("differs", quay.differs(1), 2);
    CHECK.due("undo", quay.undo(), 1);
  }

  private static void textBeginsAnew() {
    QuayBerths quay = Check.told("quay 90;crane 0 89;ship a 10 9 9 12 0 9 0 1 1;ship b" + SHIP_NUMBERS);
    quay.put(0, 20, 3, 1);
    quay.mark(1);
    CHECK.due("text", Check.tell(quay, "crane 0 9;ship a" + SHIP_NUMBERS), 2);
    CHECK.due("quay", quay.count(0), 300);
    CHECK.due("no stays", quay.count(10), 0);
    CHECK.due("no acts", quay.count(11), 0);
    CHECK.due("no marks", quay.count(12), 0);
    CHECK.due("x", quay.ship(0, 9), -2);
    CHECK.due("undo", quay.undo(), -1);
    CHECK.due("back", quay.back(1), -1);
    CHECK.due("no crane slots", quay.count(15), 0);
    CHECK.due("best", quay.best(2), 0);
    CHECK.due("text without ships", Check.tell(quay, "gap 1;"), 1);
    CHECK.due("best", quay.best(2), -1);
  }

  private static void good(String text, int lines) {
    QuayBerths quay = new QuayBerths();
    CHECK.due(text, Check.tell(quay, text), lines);
    CHECK.due("no fault of " + text, quay.fault(0), 0);
    CHECK.due("no place of " + text, quay.fault(1), -1);
  }

  private static void goodTexts() {
    good("", 0);
    good(" \n \n", 0);
    good("\n quay\n\n 50 \n;\n gap 0 ; ", 2);
    good("quay 999;gap 50;keel 30;channel 300;rate 99;loss 10;", 6);
    good("quay 0050;keel 0;channel 0;rate 1;loss 0;", 5);
    good("section 0 0;section 999 300;crane 0 0;crane 999 999;tide 0 0;tide 335 99;gangs 0 0 0;gangs 6 2 9;", 8);
    good("ship z 1 0 0 0 0 0 0 1 1;ship abcdefgh 400 300 300 9999 335 999 3 8 8;ship quays 1 0 0 0 0 0 0 1 8;", 3);
    good("crane 5 9;crane 5 9;gangs 0 0 1;gangs 0 1 1;gangs 1 0 1;section 1 5;section 2 5;tide 1 5;tide 2 5;", 9);
  }

  private static void fault(String text, int fault, int place) {
    QuayBerths quay = new QuayBerths();
    CHECK.due(text, Check.tell(quay, text), -1);
    CHECK.due("fault of " + text, quay.fault(0), fault);
    CHECK.due("place of " + text, quay.fault(1), place);
  }

  private static void faultsOfSigns() {
    fault(";", 1, 0);
    fault("  7;", 1, 2);
    fault("quay", 1, 4);
    fault("quay ", 1, 5);
    fault("quay ;", 1, 5);
    fault("quay;", 1, 4);
    fault("quay 60", 1, 7);
    fault("quay 60 \n", 1, 9);
    fault("quay 60 70;", 1, 8);
    fault("quay 60gap 1;", 1, 7);
    fault("quay60;", 1, 4);
    fault("quay x;", 1, 5);
    fault("quay 60;;", 1, 8);
    fault("quay 60;gap 1;dock 5;", 1, 14);
    fault("Quay 60;", 1, 0);
    fault("quaY 60;", 1, 0);
    fault("quay\t60;", 1, 4);
    fault("quay\r60;", 1, 4);
    fault("quay 60,", 1, 7);
    fault("quay -60;", 1, 5);
    fault("quay \u00e960;", 1, 5);
    fault("quay 60;\u0000", 1, 8);
    fault("quay 00060;", 1, 5);
    fault("quay 99999;", 1, 5);
    fault("quayquayq 60;", 1, 0);
    fault("qua 60;", 1, 0);
    fault("section 5;", 1, 9);
    fault("section 5 6 7;", 1, 12);
    fault("crane 5 x;", 1, 8);
    fault("gangs 1 1;", 1, 9);
    fault("tide 5x6;", 1, 6);
  }

  private static void faultsOfBounds() {
    fault("quay 49;", 2, 5);
    fault("quay 1000;", 2, 5);
    fault("gap 51;", 2, 4);
    fault("keel 31;", 2, 5);
    fault("channel 301;", 2, 8);
    fault("rate 0;", 2, 5);
    fault("rate 100;", 2, 5);
    fault("loss 11;", 2, 5);
    fault("section 1000 5;", 2, 8);
    fault("section 5 301;", 2, 10);
    fault("crane 1000 1000;", 2, 6);
    fault("crane 5 1000;", 2, 8);
    fault("crane 5 4;", 2, 8);
    fault("tide 336 5;", 2, 5);
    fault("tide 5 100;", 2, 7);
    fault("gangs 7 0 0;", 2, 6);
    fault("gangs 0 3 0;", 2, 8);
    fault("gangs 0 0 10;", 2, 10);
    fault("quay 49", 2, 5);
    fault("quay 49x", 2, 5);
  }

  private static void faultsOfShips() {
    fault("ship", 1, 4);
    fault("ship ;", 1, 5);
    fault("ship 5 1 0 0 0 0 0 0 1 1;", 1, 5);
    fault("ship5 1;", 1, 4);
    for (String word : "quay gap keel channel rate loss section crane tide gangs ship".split(" ")) {
      fault("ship " + word + SHIP_NUMBERS, 1, 5);
    }
    fault("ship abcdefghi" + SHIP_NUMBERS, 1, 5);
    fault("ship a1 0 0 0 0 0 0 1 1;", 1, 6);
    fault("ship a b" + SHIP_NUMBERS, 1, 7);
    fault("ship a 1 0 0 0 0 0 0 1;", 1, 22);
    fault("ship a 1 0 0 0 0 0 0 1 1 1;", 1, 25);
    fault("ship a 0 0 0 0 0 0 0 1 1;", 2, 7);
    fault("ship a 401 0 0 0 0 0 0 1 1;", 2, 7);
    fault("ship a 1 301 0 0 0 0 0 1 1;", 2, 9);
    fault("ship a 1 0 301 0 0 0 0 1 1;", 2, 11);
    fault("ship a 1 0 0 10000 0 0 0 1 1;", 1, 13);
    fault("ship a 1 0 0 0 336 0 0 1 1;", 2, 15);
    fault("ship a 1 0 0 0 0 1000 0 1 1;", 2, 17);
    fault("ship a 1 0 0 0 0 0 4 1 1;", 2, 19);
    fault("ship a 1 0 0 0 0 0 0 0 1;", 2, 21);
    fault("ship a 1 0 0 0 0 0 0 9 9;", 2, 21);
    fault("ship a 1 0 0 0 0 0 0 1 0;", 2, 23);
    fault("ship a 1 0 0 0 0 0 0 1 9;", 2, 23);
    fault("ship a 1 0 0 0 0 0 0 3 2;", 2, 23);
  }

  private static void toldAlready() {
    fault("quay 60;quay 60;", 3, 8);
    fault("gap 1;gap 99;", 3, 6);
    fault("keel 1; keel;", 3, 8);
    fault("channel 1;channel 1;", 3, 10);
    fault("rate 1;rate 1;", 3, 7);
    fault("loss 1;loss 1;", 3, 7);
    fault("section 5 1;section 05 2;", 3, 20);
    fault("tide 5 1;tide 6 1;tide 5 1;", 3, 23);
    fault("gangs 0 1 2;gangs 0 1 2;", 3, 20);
    fault("gangs 1 0 2;gangs 0 1 2;gangs 1 0 2;", 3, 32);
    fault("ship ab" + SHIP_NUMBERS + "ship a" + SHIP_NUMBERS + "ship ab" + SHIP_NUMBERS, 3, 56);
    fault("ship a" + SHIP_NUMBERS + "ship a;", 3, 30);
    // not the first one that was told, and not the one told last
    fault("section 5 1;section 6 2;section 7 3;section 6 4;", 3, 44);
    fault("section 5 1;section 6 2;section 7 3;section 7 4;", 3, 44);
    fault("tide 5 1;tide 6 2;tide 7 3;tide 6 4;", 3, 32);
    fault("tide 5 1;tide 6 2;tide 7 3;tide 7 4;", 3, 32);
    fault("gangs 0 0 1;gangs 0 1 1;gangs 0 2 1;gangs 0 1 2;", 3, 44);
    fault("ship a" + SHIP_NUMBERS + "ship b" + SHIP_NUMBERS + "ship c" + SHIP_NUMBERS + "ship b", 3, 80);
    // what a section or a tide tells is no metre, no slot
    good("section 5 6;section 6 5;tide 7 8;tide 8 7;crane 1 2;crane 1 2;", 6);
  }

  private static void oneTooMany() {
    StringBuilder sections = new StringBuilder();
    StringBuilder cranes = new StringBuilder();
    StringBuilder tides = new StringBuilder();
    StringBuilder ships = new StringBuilder();
    for (int i = 0; i < 8; i++) sections.append("section ").append(i).append(" 5;");
    for (int i = 0; i < 8; i++) cranes.append("crane 0 ").append(i).append(";");
    for (int i = 10; i < 40; i++) tides.append("tide ").append(i).append(" 5;");
    for (int i = 0; i < 14; i++) ships.append("ship ").append((char) ('a' + i)).append(SHIP_NUMBERS);
    good(sections.toString(), 8);
    good(cranes.toString(), 8);
    good(tides.toString(), 30);
    good(ships.toString(), 14);
    fault(sections + "section 5 5;", 4, 8 * 12);
    fault(cranes + "crane", 4, 8 * 10);
    fault(tides + " tide x", 4, 30 * 10 + 1);
    fault(ships + "ship a" + SHIP_NUMBERS, 4, 14 * 25);
    fault(sections + "section9 5;", 4, 8 * 12);
    fault(sections + "sections 9 5;", 1, 8 * 12);
  }
}
