/** Promises 22 to 24: see, minutes, lamps. */
public final class SeenTest {
  private static final Check check = new Check();

  public static void main(String[] args) {
    seeing();
    telling();
    check.finish();
  }

  private static final String TEXT = "fair 20;stall s at 0 turn 1 price 0 shut 0;stall t at 0 turn 2 price 0 shut 0;"
      + "coin a width 9 hole 0;coin b width 99 hole 0;cloud 4 to 6;shade width*turn+minute/2;";

  private static void seeing() {
    ShadowCoins x = Check.at(TEXT);
    check.due("see one", Check.see(x, 0, 0, 0, 9), 1);
    check.due("rows", x.has(9), 1);
    int[] many = new int[64];
    check.due("see sixteen", Check.see(x, many), 16);
    check.due("see seventeen", Check.see(x, new int[68]), -1);
    check.due("the tape is gone", x.feed(0, 0, 0, 0, 0), 20);
    check.due("see none", Check.see(x), -1);
    check.due("see three bytes", Check.see(x, 0, 0, 0), -1);
    check.due("see five bytes", Check.see(x, 0, 0, 0, 9, 0), -1);
    check.due("no such coin", Check.see(x, 2, 0, 0, 9), -1);
    check.due("no such stall", Check.see(x, 0, 2, 0, 9), -1);
    check.due("no such coin in a later row", Check.see(x, 0, 0, 0, 9, 255, 0, 0, 9), -1);
    check.due("all stay", x.has(9), 16);
    check.due("status(1)", x.status(1), 7);
    check.due("see without a fair", Check.see(new ShadowCoins(), 0, 0, 0, 0), -1);
    x.pause(3);
    x.undo();
    check.due("undo leaves them", x.has(9), 16);
  }

  private static void telling() {
    ShadowCoins x = Check.at(TEXT);
    int[] all = {21, 0, 20};
    int[] dark = {0, 0, 0};
    for (int what = 0; what < 3; what++) {
      check.due("nothing seen, minutes", x.minutes(what), all[what]);
      check.due("nothing seen, lamps", x.lamps(what), dark[what]);
    }
    // the higher byte first: 99 * 2 + 18 / 2 .. = 207, 256 + 1 never
    Check.see(x, 1, 1, 0, 207);
    check.due("207", x.minutes(0), 2);
    check.due("207 first", x.minutes(1), 18);
    check.due("207 last", x.minutes(2), 19);
    Check.see(x, 1, 1, 207, 0);
    check.due("never", x.minutes(0), 0);
    check.due("never first", x.minutes(1), -1);
    check.due("never last", x.minutes(2), -1);
    check.due("never lamps", x.lamps(0), 1);
    check.due("never lamps, which", x.lamps(1), 1);
    check.due("never lamps, when", x.lamps(2), 0);
    // row 0 in 2 and 3, row 1 in 18 and 19, row 2 in clouds, row 3 in 2 and 3
    Check.see(x, 0, 0, 0, 10, 1, 1, 0, 207, 0, 0, 0, 0, 1, 0, 0, 100);
    check.due("lamps", x.lamps(0), 2);
    check.due("lamps, which", x.lamps(1), 6);
    check.due("lamps, when", x.lamps(2), 2);
    check.due("minutes", x.minutes(0), 0);
    Check.see(x, 0, 0, 0, 0);
    check.due("clouds", x.minutes(0), 3);
    check.due("clouds first", x.minutes(1), 4);
    check.due("clouds last", x.minutes(2), 6);
    x.pause(10);
    check.due("minutes that are gone count", x.minutes(1), 4);
    for (int what : new int[] {3, -1}) {
      check.due("minutes of others", x.minutes(what), -1);
      check.due("lamps of others", x.lamps(what), -1);
    }
    ShadowCoins none = new ShadowCoins();
    for (int what = 0; what < 3; what++) {
      check.due("minutes without a fair", none.minutes(what), -1);
      check.due("lamps without a fair", none.lamps(what), -1);
    }
    // 900 takes both bytes
    x = Check.at("fair 20;stall s at 0 turn 1 price 0 shut 0;coin a width 90 hole 0;shade width*10;");
    Check.see(x, 0, 0, 3, 132);
    check.due("900", x.minutes(0), 21);
    check.due("a length that no shadow has is seen too", Check.see(x, 0, 0, 255, 255), 1);
    check.due("but never so", x.minutes(0), 0);
  }
}
