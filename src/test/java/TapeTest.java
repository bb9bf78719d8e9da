/** Promises 1 to 3: a new object, feed, end. */
public final class TapeTest {
  private static final Check check = new Check();

  public static void main(String[] args) {
    newObject();
    feeding();
    ending();
    check.finish();
  }

  private static void newObject() {
    ShadowCoins x = new ShadowCoins();
    for (int what = 0; what <= 10; what++) {
      check.due("new has(" + what + ")", x.has(what), 0);
    }
    check.due("new fault(0)", x.fault(0), 0);
    check.due("new fault(1)", x.fault(1), -1);
    check.due("new octet(0)", x.octet(0), -1);
    check.due("new letter", x.letter(1, 0, 0), -1);
    check.due("new handy", x.handy(0), -1);
    check.due("new bridge", x.bridge(0, 0), -1);
    check.due("new strike", x.strike(0, 0), -1);
    for (int what = 0; what < 6; what++) {
      check.due("new status(" + what + ")", x.status(what), 0);
    }
    check.due("new end(0)", x.end(0), true);
    check.due("new end(1)", x.end(1), false);
  }

  private static void feeding() {
    ShadowCoins x = new ShadowCoins();
    for (int k = 1; k <= 80; k++) {
      check.due("feed " + k, x.feed(0, 0, 0, 0, 0), 20 * k);
    }
    check.due("feed 81", x.feed(0, 0, 0, 0, 0), -1);
    check.due("status(0)", x.status(0), 1);
    check.due("end(1600)", x.end(1600), true);
    check.due("end(1581)", x.end(1581), true);
    check.due("feed behind 1581", x.feed(0, 0, 0, 0, 0), -1);
    check.due("status(0)", x.status(0), 2);
    check.due("end(1580)", x.end(1580), true);
    check.due("feed behind 1580", x.feed(0, 0, 0, 0, 0), 1600);
    // "fair 10;" by bytes above and below, the highest of each number first
    check.due("end(0)", x.end(0), true);
    check.due("feed text", x.feed(0x66616972, 0x2031303b, 0x20202020, 0x0a0a0a0a, 0x20202020), 20);
    check.due("fair", x.fair(), 1);
    check.due("minutes", x.has(0), 10);
    check.due("the tape is gone", x.feed(-1, -1, -1, -1, -1), 20);
    check.due("fair of bytes 255", x.fair(), -1);
    check.due("fault", x.fault(0), 1);
    check.due("place", x.fault(1), 0);
  }

  private static void ending() {
    ShadowCoins x = new ShadowCoins();
    x.feed(0x66616972, 0x2031303b, 0x78787878, 0x78787878, 0x78787878);
    check.due("end(21)", x.end(21), false);
    check.due("end(-1)", x.end(-1), false);
    check.due("end(least)", x.end(Integer.MIN_VALUE), false);
    check.due("end(most)", x.end(Integer.MAX_VALUE), false);
    check.due("status(0)", x.status(0), 4);
    check.due("end(20)", x.end(20), true);
    check.due("end(8)", x.end(8), true);
    check.due("end(9)", x.end(9), false);
    check.due("fair", x.fair(), 1);
  }
}
