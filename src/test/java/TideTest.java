/** Promises 14 to 17: open, next, shut, tide. */
public final class TideTest {
  private static final Check CHECK = new Check();

  public static void main(String[] args) {
    // levels: 0 in slots 0 to 10, 10 in 11, 20 in 12, 30 in 13, 20 in 14, 10 in 15, 0 from 16 on, 5 from 335 on
    QuayBerths quay = Check.told("channel 90;keel 5;tide 10 0;tide 13 30;tide 16 0;tide 334 0;tide 335 5;");
    opens(quay);
    opensNext(quay);
    shuts(quay);
    levels(quay);
    CHECK.end();
  }

  private static void opens(QuayBerths quay) {
    CHECK.due("85 in 0", quay.open(85, 0), 1);
    CHECK.due("86 in 0", quay.open(86, 0), 0);
    CHECK.due("95 in 11", quay.open(95, 11), 1);
    CHECK.due("96 in 11", quay.open(96, 11), 0);
    CHECK.due("115 in 13", quay.open(115, 13), 1);
    CHECK.due("116 in 13", quay.open(116, 13), 0);
    CHECK.due("90 in 335", quay.open(90, 335), 1);
    CHECK.due("0", quay.open(0, 5), 1);
    CHECK.due("300", quay.open(300, 5), 0);
    CHECK.due("301", quay.open(301, 5), -1);
    CHECK.due("-1", quay.open(-1, 5), -1);
    CHECK.due("slot 336", quay.open(5, 336), -1);
    CHECK.due("slot -1", quay.open(5, -1), -1);
  }

  private static void opensNext(QuayBerths quay) {
    CHECK.due("at once", quay.next(85, 7), 7);
    CHECK.due("later", quay.next(86, 0), 11);
    CHECK.due("later", quay.next(105, 0), 12);
    CHECK.due("at the slot itself", quay.next(105, 14), 14);
    CHECK.due("much later", quay.next(86, 16), 335);
    CHECK.due("no more", quay.next(105, 15), -2);
    CHECK.due("the last slot", quay.next(90, 335), 335);
    CHECK.due("not in it", quay.next(91, 335), -2);
    CHECK.due("301", quay.next(301, 0), -1);
    CHECK.due("-1", quay.next(-1, 0), -1);
    CHECK.due("slot 336", quay.next(0, 336), -1);
    CHECK.due("slot -1", quay.next(0, -1), -1);
  }

  private static void shuts(QuayBerths quay) {
    CHECK.due("never", quay.shut(85, 0), 0);
    CHECK.due("never", quay.shut(85, 1), -2);
    // for 86: slots 0 to 10 (11 of them) and 16 to 334 (319)
    CHECK.due("the longer one", quay.shut(86, 0), 319);
    CHECK.due("its first", quay.shut(86, 1), 16);
    CHECK.due("up to the end", quay.shut(105, 0), 321);
    CHECK.due("its first", quay.shut(105, 1), 15);
    CHECK.due("always", quay.shut(300, 0), 336);
    CHECK.due("from the first on", quay.shut(300, 1), 0);
    CHECK.due("what 2", quay.shut(86, 2), -1);
    CHECK.due("what -1", quay.shut(86, -1), -1);
    CHECK.due("301", quay.shut(301, 0), -1);
    CHECK.due("-1", quay.shut(-1, 0), -1);
    QuayBerths even = Check.told("tide 0 0;tide 166 0;tide 167 9;tide 168 9;tide 169 0;");
    // shut for 105 in 0 to 166 and in 169 to 335: 167 slots each
    CHECK.due("like ones", even.shut(105, 0), 167);
    CHECK.due("the first of them", even.shut(105, 1), 0);
  }

  private static void levels(QuayBerths quay) {
    CHECK.due("greatest", quay.tide(0, 335, 0), 30);
    CHECK.due("its slot", quay.tide(0, 335, 1), 13);
    CHECK.due("least", quay.tide(0, 335, 2), 0);
    CHECK.due("its first slot", quay.tide(0, 335, 3), 0);
    CHECK.due("greatest of a part", quay.tide(14, 20, 0), 20);
    CHECK.due("its slot", quay.tide(14, 20, 1), 14);
    CHECK.due("least of a part", quay.tide(11, 15, 2), 10);
    CHECK.due("its first slot", quay.tide(11, 15, 3), 11);
    CHECK.due("like ones", quay.tide(12, 14, 3), 12);
    CHECK.due("like ones", quay.tide(14, 334, 3), 16);
    CHECK.due("one slot", quay.tide(335, 335, 0), 5);
    CHECK.due("the last slot is the greatest", quay.tide(10, 13, 1), 13);
    CHECK.due("the last slot is the least", quay.tide(13, 15, 3), 15);
    CHECK.due("the first of like ones", quay.tide(17, 30, 1), 17);
    CHECK.due("what 4", quay.tide(0, 5, 4), -1);
    CHECK.due("what -1", quay.tide(0, 5, -1), -1);
    CHECK.due("the wrong way", quay.tide(5, 4, 0), -1);
    CHECK.due("slot 336", quay.tide(5, 336, 0), -1);
    CHECK.due("slot -1", quay.tide(-1, 5, 0), -1);
  }
}
