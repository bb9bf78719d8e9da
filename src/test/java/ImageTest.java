/** Promises 32 to 34: image, octet, on. */
public final class ImageTest {
  private static final Check check = new Check();

  public static void main(String[] args) {
    writing();
    reading();
    wrong();
    check.finish();
  }

  private static final String TEXT = "fair 300;stall a at 20 turn 0 price 1 shut 400;stall b at 0 turn 0 price 1 shut 400;"
      + "coin c width 4 hole 0;gust 100;cloud 290 to 300;cloud 0 to 0;";

  private static void image(ShadowCoins x, int... bytes) {
    int[] all = Check.sealed(bytes);
    check.due("image", x.image(), all.length);
    for (int k = 0; k < all.length; k++) {
      check.due("octet(" + k + ")", x.octet(k), all[k]);
    }
    check.due("octet behind", x.octet(all.length), -1);
    check.due("octet -1", x.octet(-1), -1);
  }

  private static void writing() {
    ShadowCoins x = new ShadowCoins();
    check.due("ahead of any", x.octet(0), -1);
    image(x, 0, 0, 0, 0, 0);
    x = Check.at(TEXT);
    image(x, 0, 0, 0, 0, 0);
    x.walk(0);
    x.buy(0, 0);
    image(x, 0, 20, 20, 1, 0);
    x.pause(254 - 20);
    x.chance(3);
    check.due("the latest image stays till the next", x.octet(1), 20);
    image(x, 1, 1, 20, 1, 3, 0, 254, 0, 255, 1, 0);
    x.undo();
    image(x, 0, 254, 20, 1, 0);
    x.chance(14);
    check.due("the longest", x.image(), 6 + 28);
    ShadowCoins y = Check.at("fair 300;gust 100;");
    y.chance(16);
    check.due("the very longest", y.image(), 38);
    check.due("its last minute", y.octet(36), 15);
    check.due("its end", y.octet(38), -1);
  }

  private static void reading() {
    ShadowCoins x = Check.at(TEXT);
    x.pause(9);
    x.buy(0, 1);
    Check.see(x, 0, 0, 0, 4);
    check.due("on", Check.on(x, Check.sealed(1, 1, 99, 3, 2, 0, 255, 1, 44)), true);
    check.due("minute", x.has(4), 257);
    check.due("place", x.has(5), 99);
    check.due("bought", x.has(6), 2);
    check.due("clouds", x.has(3), 4);
    check.due("a cloud in 255", x.shadow(0, 0, 255), 0);
    check.due("none in 256", x.shadow(0, 0, 256), 4);
    check.due("nothing kept", x.has(8), 0);
    check.due("nothing to undo", x.has(10), 0);
    check.due("undo", x.undo(), false);
    check.due("what was seen stays", x.has(9), 1);
    check.due("the tape is gone", x.feed(0, 0, 0, 0, 0), 20);
    image(x, 1, 1, 99, 3, 2, 0, 255, 1, 44);
    check.due("on, without clouds", Check.on(x, Check.sealed(0, 0, 0, 2, 0)), true);
    check.due("the cloud in 255 is gone", x.shadow(0, 0, 255), 4);
    check.due("the told ones stay", x.has(3), 2);
    check.due("bought", x.stall(1, 4), 1);
    check.due("not bought", x.stall(0, 4), 0);
    // the last minute, and as many clouds as can be
    int[] many = new int[5 + 28];
    many[0] = 1;
    many[1] = 44;
    many[4] = 14;
    check.due("on, sixteen clouds", Check.on(x, Check.sealed(many)), true);
    check.due("sixteen", x.has(3), 16);
    check.due("refused none", x.status(5), 0);
    // an image leads back to where it was made
    x = Check.at(TEXT);
    x.chance(7);
    x.walk(0);
    int[] bytes = new int[x.image()];
    for (int k = 0; k < bytes.length; k++) {
      bytes[k] = x.octet(k);
    }
    ShadowCoins y = Check.at(TEXT);
    check.due("on elsewhere", Check.on(y, bytes), true);
    for (int what = 0; what < 8; what++) {
      check.due("has(" + what + ")", y.has(what), x.has(what));
    }
  }

  private static void bad(String what, int... bytes) {
    ShadowCoins x = Check.at(TEXT);
    x.pause(5);
    x.buy(0, 1);
    check.due(what, Check.on(x, bytes), false);
    check.due("refused: " + what, x.status(5), 1);
    check.due("the tape is gone", x.feed(0, 0, 0, 0, 0), 20);
    check.due("minute", x.has(4), 5);
    check.due("kept", x.has(8), 1);
    check.due("acts", x.has(10), 2);
    check.due("clouds", x.has(3), 2);
    check.due("bought", x.has(6), 1);
  }

  private static void wrong() {
    bad("nothing");
    bad("too short", 0, 0, 0, 0);
    bad("without an end", 0, 0, 0, 0, 0);
    bad("a wrong end", 0, 0, 0, 0, 0, 171);
    bad("a minute too late", Check.sealed(1, 45, 0, 0, 0));
    bad("a place too far", Check.sealed(0, 0, 100, 0, 0));
    bad("a stall too many", Check.sealed(0, 0, 0, 4, 0));
    bad("all bits", Check.sealed(0, 0, 0, 255, 0));
    bad("a cloud too late", Check.sealed(0, 0, 0, 0, 1, 1, 45));
    bad("a cloud that is not there", Check.sealed(0, 0, 0, 0, 1));
    bad("half a cloud", Check.sealed(0, 0, 0, 0, 1, 0));
    bad("a cloud that is not told", Check.sealed(0, 0, 0, 0, 0, 0, 0));
    int[] many = new int[5 + 30];
    many[4] = 15;
    bad("seventeen clouds", Check.sealed(many));
    int[] most = new int[5 + 510];
    most[4] = 255;
    bad("far too many clouds", Check.sealed(most));
    ShadowCoins x = new ShadowCoins();
    check.due("without a fair", Check.on(x, Check.sealed(0, 0, 0, 0, 0)), false);
    check.due("refused", x.status(5), 1);
    check.due("the tape is gone", x.feed(0, 0, 0, 0, 0), 20);
    x = Check.at("fair 10;");
    check.due("no stalls", Check.on(x, Check.sealed(0, 0, 0, 1, 0)), false);
    check.due("no stalls, nothing bought", Check.on(x, Check.sealed(0, 10, 99, 0, 0)), true);
  }
}
