/** Promises 12, 25 to 30 and 35: kept, the acts, undo, the seed, status. */
public final class ActsTest {
  private static final Check check = new Check();

  public static void main(String[] args) {
    walking();
    pausing();
    buying();
    chances();
    cloudOfTheMinuteLeft();
    fullSky();
    undoing();
    seeds();
    statuses();
    check.finish();
  }

  private static void walking() {
    ShadowCoins x = Check.at("fair 30;stall a at 10 turn 0 price 1 shut 400;stall b at 10 turn 0 price 1 shut 400;"
        + "stall c at 3 turn 0 price 1 shut 400;stall o at 0 turn 0 price 1 shut 400;");
    check.due("there already", x.walk(3), -1);
    check.due("walk", x.walk(0), 10);
    check.due("place", x.has(5), 10);
    check.due("the same place", x.walk(1), -1);
    check.due("back", x.walk(2), 17);
    check.due("on", x.walk(1), 24);
    check.due("too late", x.walk(2), -1);
    check.due("no such", x.walk(4), -1);
    check.due("no such", x.walk(-1), -1);
    check.due("status(2)", x.status(2), 5);
    check.due("minute", x.has(4), 24);
    check.due("acts", x.has(10), 3);
    x = Check.at("fair 30;stall a at 30 turn 0 price 1 shut 400;");
    check.due("in the last minute", x.walk(0), 30);
  }

  private static void pausing() {
    ShadowCoins x = Check.at("fair 400;");
    check.due("0", x.pause(0), false);
    check.due("-1", x.pause(-1), false);
    check.due("401", x.pause(401), false);
    check.due("most", x.pause(Integer.MAX_VALUE), false);
    check.due("least", x.pause(Integer.MIN_VALUE), false);
    check.due("400", x.pause(400), true);
    check.due("1 more", x.pause(1), false);
    check.due("status(3)", x.status(3), 6);
    check.due("minute", x.has(4), 400);
    check.due("without a fair", new ShadowCoins().pause(1), false);
  }

  private static void buying() {
    ShadowCoins x = Check.at("fair 30;stall a at 0 turn 0 price 2 shut 20;stall b at 5 turn 0 price 1 shut 20;"
        + "stall c at 5 turn 0 price 1 shut 20;coin one width 1 hole 0;coin two width 2 hole 0;cloud 6 to 6;");
    check.due("too short", x.buy(0, 0), false);
    check.due("not there", x.buy(1, 1), false);
    check.due("no coin", x.buy(2, 0), false);
    check.due("no coin", x.buy(-1, 0), false);
    check.due("no stall", x.buy(1, 3), false);
    check.due("no stall", x.buy(1, -1), false);
    check.due("status(2)", x.status(2), 6);
    check.due("buy", x.buy(1, 0), true);
    check.due("no minute goes by", x.has(4), 0);
    check.due("twice", x.buy(1, 0), false);
    check.due("bought", x.stall(0, 4), 1);
    check.due("not bought", x.stall(1, 4), 0);
    check.due("it buys as ever", x.buys(1, 0, 0), 1);
    x.walk(1);
    x.pause(1);
    check.due("in a cloud", x.buy(1, 1), false);
    x.pause(1);
    check.due("the first one is enough here", x.buy(0, 2), true);
    check.due("and the other stall", x.buy(1, 1), true);
    check.due("has(6)", x.has(6), 3);
    check.due("has(8)", x.has(8), 3);
    int[][] kept = {{0, 0, 1}, {7, 2, 0}, {7, 1, 1}};
    for (int k = 0; k < 3; k++) {
      for (int what = 0; what < 3; what++) {
        check.due("kept(" + k + "," + what + ")", x.kept(k, what), kept[k][what]);
      }
    }
    for (int[] n : new int[][] {{3, 0}, {-1, 0}, {0, 3}, {0, -1}}) {
      check.due("kept none", x.kept(n[0], n[1]), -1);
    }
    x.undo();
    check.due("undone", x.has(8), 2);
    check.due("undone", x.kept(2, 0), -1);
    check.due("undone", x.stall(1, 4), 0);
    check.due("again, with the other", x.buy(0, 1), true);
    check.due("again", x.kept(2, 2), 0);
  }

  private static long draw = 1;

  private static int drawn() {
    draw = (1103515245L * draw + 12345L) & 0x7fffffffL;
    return (int) (draw / 64 % 100);
  }

  private static void chances() {
    ShadowCoins x = Check.at("fair 100;stall a at 0 turn 0 price 1 shut 400;coin one width 1 hole 0;gust 40;");
    draw = 1;
    int clouds = 0;
    boolean[] cloudy = new boolean[101];
    for (int step = 1; step <= 5; step++) {
      int came = 0;
      int from = x.has(4);
      for (int k = 0; k < step; k++) {
        if (drawn() < 40) {
          cloudy[from + k] = true;
          came++;
        }
      }
      check.due("chance", x.chance(step), came);
      clouds += came;
      check.due("clouds", x.has(3), clouds);
      check.due("minute", x.has(4), from + step);
      check.due("has(7)", x.has(7), cloudy[from + step] ? 1 : 0);
      check.due("one act", x.has(10), step);
    }
    for (int minute = 0; minute <= 100; minute++) {
      check.due("shadow in " + minute, x.shadow(0, 0, minute), cloudy[minute] ? 0 : 1);
    }
    check.due("0", x.chance(0), -1);
    check.due("-1", x.chance(-1), -1);
    check.due("86", x.chance(86), -1);
    check.due("401", x.chance(401), -1);
    check.due("most", x.chance(Integer.MAX_VALUE), -1);
    check.due("status(3)", x.status(3), 5);
    int next = drawn();
    check.due("what was refused draws nothing", x.chance(1), next < 40 ? 1 : 0);
    check.due("gust 100", Check.at("fair 100;gust 100;").chance(10), 10);
    check.due("gust 0", Check.at("fair 100;gust 100;gust 0;").chance(10), 0);
    check.due("no gust", Check.at("fair 100;").chance(10), 0);
    check.due("to the end", Check.at("fair 400;").chance(400), 0);
    // a cloud comes where one is told, too
    x = Check.at("fair 100;gust 100;cloud 0 to 50;");
    check.due("over a cloud", x.chance(3), 3);
    check.due("clouds", x.has(3), 4);
  }

  /** The cloud is in the minute that one waits, not in the one that one comes to. */
  private static void cloudOfTheMinuteLeft() {
    String text = "fair 20;stall a at 0 turn 0 price 1 shut 400;coin one width 5 hole 0;gust 100;";
    ShadowCoins x = Check.at(text);
    check.due("a cloud", x.chance(1), 1);
    check.due("in 0", x.shadow(0, 0, 0), 0);
    check.due("none in 1", x.shadow(0, 0, 1), 5);
    check.due("none now", x.has(7), 0);
    check.due("so the coin buys", x.buy(0, 0), true);
    check.due("image", x.image(), 8);
    check.due("the cloud's minute, higher byte", x.octet(5), 0);
    check.due("the cloud's minute, lower byte", x.octet(6), 0);
    // to the last minute of the fair: this one stays without a cloud
    x = Check.at(text);
    x.pause(17);
    check.due("three", x.chance(3), 3);
    for (int minute = 0; minute <= 20; minute++) {
      check.due("shadow in " + minute, x.shadow(0, 0, minute), minute >= 17 && minute <= 19 ? 0 : 5);
    }
    check.due("pairs of a shadow of 0", x.chalked(0, 0, 0), 3);
    check.due("the first", x.chalked(0, 0, 1), 17);
  }

  private static void fullSky() {
    ShadowCoins x = Check.at("fair 100;gust 100;cloud 99 to 100;cloud 99 to 100;");
    check.due("fourteen more", x.chance(20), 14);
    check.due("image", x.image(), 34);
    check.due("the first in 0", x.octet(6), 0);
    check.due("the last in 13", x.octet(32), 13);
    check.due("sixteen", x.has(3), 16);
    check.due("none more", x.chance(3), 0);
    check.due("has(7) in 23", x.has(7), 0);
    x.undo();
    x.undo();
    check.due("two told", x.has(3), 2);
    // 23 draws were made though the sky was full
    ShadowCoins y = Check.at("fair 100;gust 50;");
    ShadowCoins z = Check.at("fair 100;gust 100;cloud 0 to 1;");
    y.chance(30);
    z.chance(30);
    y.undo();
    Check.fair(z, "fair 100;gust 50;");
    check.due("the draw is made alike", y.chance(7), z.chance(7));
    check.due("the image is alike", y.image(), z.image());
    for (int k = 0; k < 38; k++) {
      check.due("octet " + k, y.octet(k), z.octet(k));
    }
  }

  private static void undoing() {
    ShadowCoins x = Check.at("fair 400;stall a at 10 turn 0 price 1 shut 400;coin c width 1 hole 0;gust 100;");
    check.due("none", x.undo(), false);
    x.walk(0);
    x.chance(2);
    x.pause(5);
    x.buy(0, 0);
    check.due("acts", x.has(10), 4);
    check.due("undo buy", x.undo(), true);
    check.due("not bought", x.has(6), 0);
    check.due("not kept", x.has(8), 0);
    check.due("minute", x.has(4), 17);
    check.due("undo pause", x.undo(), true);
    check.due("minute", x.has(4), 12);
    check.due("a cloud in 10", x.shadow(0, 0, 10), 0);
    check.due("a cloud in 11", x.shadow(0, 0, 11), 0);
    check.due("none now", x.has(7), 0);
    check.due("undo chance", x.undo(), true);
    check.due("minute", x.has(4), 10);
    check.due("no clouds", x.has(3), 0);
    check.due("sun again", x.shadow(0, 0, 10), 1);
    check.due("sun again", x.shadow(0, 0, 11), 1);
    check.due("undo walk", x.undo(), true);
    check.due("minute", x.has(4), 0);
    check.due("place", x.has(5), 0);
    check.due("none", x.undo(), false);
    check.due("status(4)", x.status(4), 2);
    for (int k = 1; k <= 25; k++) {
      x.pause(k);
    }
    check.due("twenty", x.has(10), 20);
    for (int k = 25; k > 5; k--) {
      check.due("undo " + k, x.undo(), true);
      check.due("minute", x.has(4), k * (k - 1) / 2);
      check.due("acts", x.has(10), k - 6);
    }
    check.due("no more", x.undo(), false);
    check.due("minute", x.has(4), 15);
    x.pause(400);
    check.due("what is refused is no act", x.undo(), false);
    x.pause(1);
    check.due("anew", x.undo(), true);
  }

  private static void seeds() {
    ShadowCoins x = Check.at("fair 400;gust 50;");
    for (int seed : new int[] {0, 1, 64, 12345, Integer.MAX_VALUE}) {
      check.due("seed", x.seed(seed), true);
      draw = seed;
      int came = 0;
      for (int k = 0; k < 9; k++) {
        came += drawn() < 50 ? 1 : 0;
      }
      check.due("chance by " + seed, x.chance(9), came);
      x.undo();
      came = 0;
      for (int k = 0; k < 9; k++) {
        came += drawn() < 50 ? 1 : 0;
      }
      check.due("undo leaves the seed of " + seed, x.chance(9), came);
      x.undo();
    }
    check.due("below 0", x.seed(-1), false);
    check.due("least", x.seed(Integer.MIN_VALUE), false);
    check.due("status(5)", x.status(5), 2);
    ShadowCoins y = new ShadowCoins();
    check.due("ahead of a fair", y.seed(5), true);
    Check.fair(y, "fair 400;gust 50;");
    x.seed(5);
    check.due("the seed stays with a fair", y.chance(12), x.chance(12));
    check.due("images", y.image(), x.image());
    for (int k = 0; k < 38; k++) {
      check.due("octet", y.octet(k), x.octet(k));
    }
  }

  private static void statuses() {
    ShadowCoins x = Check.at("fair 10;");
    x.end(99);
    Check.fair(x, "");
    Check.see(x);
    x.walk(0);
    x.buy(0, 0);
    x.walk(0);
    x.pause(11);
    x.chance(11);
    x.pause(11);
    x.chance(11);
    for (int k = 0; k < 5; k++) {
      x.undo();
    }
    for (int k = 0; k < 5; k++) {
      x.seed(-5);
    }
    Check.on(x, 1);
    for (int what = 0; what < 6; what++) {
      check.due("status(" + what + ")", x.status(what), what + 1);
    }
    Check.ask(x, "");
    x.shadow(9, 9, 9);
    for (int what = 0; what < 6; what++) {
      check.due("status(" + what + ") stays", x.status(what), what + 1);
    }
    check.due("status(6)", x.status(6), -1);
    check.due("status(-1)", x.status(-1), -1);
  }
}
