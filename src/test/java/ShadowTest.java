/** Promises 10, 11, 13 and 16 to 21: shadows, what they buy, and when. */
public final class ShadowTest {
  private static final Check check = new Check();

  public static void main(String[] args) {
    sums();
    refusing();
    buying();
    when();
    strikes();
    handy();
    odd();
    bridges();
    change();
    chalked();
    lastMinutes();
    largest();
    check.finish();
  }

  /** The shadow by a shade, of a coin of width 7 and hole 2, at a stall of turn 3, in minute 5. */
  private static void shade(String shade, int want) {
    ShadowCoins x = Check.at("fair 30;stall s at 0 turn 3 price 4 shut 30;coin c width 7 hole 2;" + shade);
    check.due(shade, x.shadow(0, 0, 5), want);
  }

  private static void sums() {
    shade("", 7);
    shade("shade width*10+hole;", 72);
    shade("shade turn*10+minute;", 35);
    shade("shade 10-2-3;", 5);
    shade("shade 100/10/2;", 5);
    shade("shade 7/2*2;", 6);
    shade("shade 2+3*4;", 14);
    shade("shade (2+3)*4;", 20);
    shade("shade min(9,4)+max(9,4)*10;", 94);
    shade("shade 5/0+3;", 3);
    shade("shade 10+(0-7)/2;", 6);
    shade("shade 10+7/(0-2);", 6);
    shade("shade 10+(0-7)/(0-2);", 13);
    shade("shade 0-1;", 0);
    shade("shade 999;", 999);
    shade("shade 1000;", 999);
    shade("shade 9999*9999/2000;", 500);
    shade("shade 9999*9999-9999*9999+1;", 1);
    shade("shade 9999*100+9999-9999*100;", 100);
    shade("shade 9999*100+9999-9999*100-100;", 0);
    shade("shade (0-9999*9999)*9999/(0-2000);", 500);
    shade("shade 1000-(0-9999*9999-9999)/(0-1000);", 0);
    shade("shade 500-(0-9999*9999-9999)/9999;", 601);
    shade("shade (0-9999*9999-9999)/(0-2000)+7;", 507);
    ShadowCoins x = Check.at("fair 30;stall s at 0 turn 3 price 4 shut 10;coin c width 7 hole 2;cloud 4 to 6;cloud 6 to 8;");
    for (int minute = 0; minute <= 30; minute++) {
      check.due("cloudy shadow " + minute, x.shadow(0, 0, minute), minute >= 4 && minute <= 8 ? 0 : 7);
      check.due("cloudy buys " + minute, x.buys(0, 0, minute), minute < 4 || minute == 9 ? 1 : 0);
    }
    int[][] none = {{1, 0, 0}, {-1, 0, 0}, {0, 1, 0}, {0, -1, 0}, {0, 0, 31}, {0, 0, -1}};
    for (int[] n : none) {
      check.due("shadow none", x.shadow(n[0], n[1], n[2]), -1);
      check.due("buys none", x.buys(n[0], n[1], n[2]), -1);
    }
  }

  /** Whether a refuse holds for that coin (width 7, hole 2, shadow 7; turn 3, price 4) in minute 5. */
  private static void refuse(String test, boolean holds) {
    ShadowCoins x = Check.at("fair 30;stall s at 0 turn 3 price 4 shut 30;coin c width 7 hole 2;refuse " + test + ";");
    check.due("refuse " + test, x.buys(0, 0, 5), holds ? 0 : 1);
  }

  private static void refusing() {
    refuse("all", true);
    refuse("not all", false);
    refuse("not not all", true);
    refuse("long=7 and price=4 and turn=3 and minute=5 and width=7 and hole=2", true);
    refuse("1<2", true);
    refuse("2<2", false);
    refuse("2>1", true);
    refuse("2>2", false);
    refuse("2=2", true);
    refuse("2=1", false);
    refuse("all or all and not all", true);
    refuse("[all or all] and not all", false);
    refuse("not all or all", true);
    refuse("not [all or all]", false);
    refuse("not 1=2 and 1=2", false);
    refuse("not all and all or all", true);
    refuse("1+1*2=3 and (1+1)*2=4", true);
  }

  private static void buying() {
    ShadowCoins x = Check.at("fair 10;stall s at 0 turn 0 price 5 shut 400;stall t at 0 turn 0 price 6 shut 0;"
        + "stall free at 0 turn 0 price 0 shut 5;coin c width 5 hole 0;coin d width 6 hole 0;coin n width 0 hole 0;");
    check.due("just enough", x.buys(0, 0, 10), 1);
    check.due("too short", x.buys(2, 0, 10), 0);
    check.due("shut at once", x.buys(1, 1, 0), 0);
    check.due("free", x.buys(2, 2, 4), 1);
    check.due("free, but shut", x.buys(2, 2, 5), 0);
    check.due("behind the fair", x.buys(0, 0, 11), -1);
  }

  private static void when() {
    String text = "fair 20;stall s at 9 turn 0 price 8 shut 15;coin c width 3 hole 0;coin d width 0 hole 0;"
        + "cloud 7 to 7;cloud 14 to 20;shade width+minute*min(width,1);";
    ShadowCoins x = Check.at(text);
    check.due("first", x.when(0, 0, 0), 5);
    check.due("last", x.when(0, 0, 1), 13);
    check.due("never", x.when(1, 0, 0), -1);
    check.due("never, last", x.when(1, 0, 1), -1);
    for (int[] n : new int[][] {{0, 0, 2}, {0, 0, -1}, {2, 0, 0}, {-1, 0, 0}, {0, 1, 0}, {0, -1, 1}}) {
      check.due("when none", x.when(n[0], n[1], n[2]), -1);
    }
    x.pause(7);
    check.due("first from 7 on", x.when(0, 0, 0), 8);
    check.due("last from 7 on", x.when(0, 0, 1), 13);
    x.pause(6);
    check.due("first from 13 on", x.when(0, 0, 0), 13);
    x.pause(1);
    check.due("first from 14 on", x.when(0, 0, 0), -1);
    check.due("last from 14 on", x.when(0, 0, 1), -1);
  }

  private static void strikes() {
    // the coin buys in 0..2 and 6..8 and 12..14, up to the end at 14
    ShadowCoins x = Check.at("fair 14;stall s at 5 turn 0 price 1 shut 400;coin c width 3 hole 0;cloud 3 to 5;cloud 9 to 11;");
    check.due("strike", x.strike(0, 0), 3);
    check.due("first of like ones", x.strike(0, 1), 3);
    x.pause(4);
    check.due("from 4 on", x.strike(0, 0), 3);
    check.due("from 4 on, first", x.strike(0, 1), 9);
    x.pause(8);
    check.due("none", x.strike(0, 0), 0);
    check.due("none, first", x.strike(0, 1), -1);
    for (int[] n : new int[][] {{0, 2}, {0, -1}, {1, 0}, {-1, 1}}) {
      check.due("strike none", x.strike(n[0], n[1]), -1);
    }
    x = Check.at("fair 14;coin c width 3 hole 0;");
    check.due("without stalls", x.strike(0, 0), 15);
    check.due("without stalls, first", x.strike(0, 1), 0);
    x = Check.at("fair 14;stall s at 0 turn 0 price 1 shut 9;coin c width 3 hole 0;");
    x.buy(0, 0);
    check.due("bought counts as ever", x.strike(0, 0), 6);
    check.due("bought counts as ever, first", x.strike(0, 1), 9);
  }

  private static void handy() {
    ShadowCoins x = Check.at("fair 14;stall s at 0 turn 0 price 3 shut 9;stall t at 0 turn 0 price 5 shut 12;"
        + "coin a width 3 hole 0;coin b width 5 hole 0;coin c width 6 hole 0;cloud 2 to 2;");
    check.due("handy", x.handy(0), 1);
    check.due("in a cloud", x.handy(2), 0);
    check.due("one is shut", x.handy(9), 1);
    check.due("all are shut", x.handy(14), 0);
    check.due("too late", x.handy(15), -1);
    check.due("too soon", x.handy(-1), -1);
    x.pause(9);
    check.due("a minute that is gone", x.handy(0), 1);
    check.due("without coins", Check.at("fair 14;").handy(0), -1);
    check.due("without stalls", Check.at("fair 14;coin a width 3 hole 0;").handy(14), 0);
  }

  private static void odd() {
    ShadowCoins x = Check.at("fair 20;stall s at 0 turn 0 price 3 shut 9;stall t at 0 turn 0 price 3 shut 15;"
        + "stall u at 0 turn 0 price 9 shut 15;coin a width 3 hole 0;cloud 9 to 10;");
    check.due("odd", x.odd(0, 1, 0), 11);
    check.due("the other way", x.odd(0, 0, 1), -1);
    check.due("at once", x.odd(0, 0, 2), 0);
    check.due("one", x.odd(0, 1, 1), -1);
    x.pause(13);
    check.due("later", x.odd(0, 1, 0), 13);
    x.pause(2);
    check.due("too late", x.odd(0, 1, 0), -1);
    for (int[] n : new int[][] {{1, 0, 1}, {-1, 0, 1}, {0, 3, 0}, {0, 0, 3}, {0, -1, 0}, {0, 0, -1}}) {
      check.due("odd none", x.odd(n[0], n[1], n[2]), -1);
    }
  }

  private static void bridges() {
    String coins = "coin a width 5 hole 0;coin b width 3 hole 0;coin c width 8 hole 0;coin d width 5 hole 0;";
    String head = "fair 20;stall s at 0 turn 0 price 0 shut 0;cloud 4 to 4;" + coins;
    int[][] want = {{0, 0}, {1, 1}, {4, 1}, {5, 1}, {6, 4}, {8, 4}, {9, 5}, {13, 5}, {14, 7}, {16, 7}, {17, 13}, {18, 13},
        {19, 15}, {21, 15}, {22, -1}, {9999, -1}};
    for (int[] w : want) {
      ShadowCoins x = Check.at(head + "bridge " + w[0] + ";");
      check.due("bridge " + w[0], x.bridge(0, 20), w[1]);
      check.due("bridge in a cloud " + w[0], x.bridge(0, 4), w[0] == 0 ? 0 : -1);
      for (int[] n : new int[][] {{1, 0}, {-1, 0}, {0, 21}, {0, -1}}) {
        check.due("bridge none", x.bridge(n[0], n[1]), -1);
      }
    }
    check.due("no coins", Check.at("fair 20;stall s at 0 turn 0 price 0 shut 0;").bridge(0, 0), 0);
    check.due("no coins, but a bridge", Check.at("fair 20;stall s at 0 turn 0 price 0 shut 0;bridge 1;").bridge(0, 0), -1);
    check.due("no stalls", Check.at("fair 20;").bridge(0, 0), -1);
  }

  private static void change() {
    ShadowCoins x = Check.at("fair 20;stall s at 0 turn 0 price 0 shut 0;coin a width 5 hole 0;coin b width 3 hole 0;"
        + "coin c width 8 hole 0;coin d width 5 hole 0;cloud 4 to 4;");
    int[][] want = {{0, 0, 3}, {2, 0, 1}, {3, 2, 0}, {5, 2, 1}, {1, -1, -1}, {999, -1, -1}, {1000, -1, -1}, {-2, -1, -1}};
    for (int[] w : want) {
      check.due("change first " + w[0], x.change(0, w[0], 0), w[1]);
      check.due("change second " + w[0], x.change(0, w[0], 1), w[2]);
    }
    for (int[] n : new int[][] {{0, 0, 2}, {0, 0, -1}, {1, 0, 0}, {-1, 0, 1}}) {
      check.due("change none", x.change(n[0], n[1], n[2]), -1);
    }
    x.pause(4);
    check.due("in a cloud, first", x.change(0, 0, 0), 0);
    check.due("in a cloud, second", x.change(0, 0, 1), 1);
    check.due("in a cloud, 2", x.change(0, 2, 0), -1);
    check.due("one coin alone", Check.at("fair 20;stall s at 0 turn 0 price 0 shut 0;coin a width 5 hole 0;").change(0, 0, 0), -1);
  }

  /** What is so in the fair's last minute alone. */
  private static void lastMinutes() {
    ShadowCoins x = Check.at("fair 20;stall s at 0 turn 0 price 20 shut 21;stall t at 0 turn 0 price 99 shut 21;"
        + "coin a width 0 hole 0;shade minute;");
    check.due("first in the last", x.when(0, 0, 0), 20);
    check.due("last in the last", x.when(0, 0, 1), 20);
    check.due("odd in the last", x.odd(0, 0, 1), 20);
    check.due("chalked in the last", x.chalked(0, 20, 1), 20);
    check.due("strike up to it", x.strike(0, 0), 20);
    check.due("handy in it", x.handy(20), 0);
    Check.see(x, 0, 0, 0, 20);
    check.due("minutes", x.minutes(1), 20);
    check.due("lamps", x.lamps(0), 0);
    check.due("lamps when", x.lamps(2), 20);
    x.pause(20);
    check.due("first now", x.when(0, 0, 0), 20);
  }

  /** As many coins and stalls and minutes as can be, in the last of each. */
  private static void largest() {
    StringBuilder text = new StringBuilder("fair 400;cloud 400 to 400;bridge 3236;shade width*10+hole+turn+minute-minute/2*2;");
    for (int k = 0; k < 6; k++) {
      text.append("stall s").append((char) ('a' + k)).append(" at 99 turn ").append(k).append(" price ").append(900 + k).append(" shut 400;");
    }
    for (int k = 0; k < 8; k++) {
      text.append("coin c").append((char) ('a' + k)).append(" width ").append(36 + k).append(" hole ").append(k).append(";");
    }
    ShadowCoins x = Check.at(text.toString());
    for (int coin = 0; coin < 8; coin++) {
      for (int stall = 0; stall < 6; stall++) {
        for (int minute = 396; minute <= 400; minute++) {
          int want = minute == 400 ? 0 : (36 + coin) * 10 + coin + stall + minute % 2;
          check.due("the largest fair's shadow", x.shadow(coin, stall, minute), want);
        }
      }
    }
    check.due("a cloud in 400", x.buys(7, 0, 400), 0);
    check.due("all eight are just enough", x.bridge(5, 399), 255);
    check.due("all eight are not enough", x.bridge(4, 399), -1);
    x = Check.at("fair 400;stall s at 0 turn 0 price 0 shut 0;coin a width 99 hole 0;coin n width 0 hole 0;shade width*99;");
    check.due("change of 999, first", x.change(0, 999, 0), 0);
    check.due("change of 999, second", x.change(0, 999, 1), 1);
  }

  private static void chalked() {
    ShadowCoins x = Check.at("fair 20;stall s at 0 turn 0 price 0 shut 0;coin a width 9 hole 0;coin b width 3 hole 0;"
        + "cloud 4 to 6;shade width+minute/2;");
    check.due("how many 9", x.chalked(0, 9, 0), 4);
    check.due("minute of 9", x.chalked(0, 9, 1), 0);
    check.due("coin of 9", x.chalked(0, 9, 2), 0);
    check.due("how many 0", x.chalked(0, 0, 0), 6);
    check.due("minute of 0", x.chalked(0, 0, 1), 4);
    check.due("coin of 0", x.chalked(0, 0, 2), 0);
    check.due("how many 13", x.chalked(0, 13, 0), 3);
    check.due("minute of 13", x.chalked(0, 13, 1), 8);
    check.due("minute of 3", x.chalked(0, 3, 1), 0);
    check.due("coin of 3", x.chalked(0, 3, 2), 1);
    check.due("how many 999", x.chalked(0, 999, 0), 0);
    check.due("minute of 999", x.chalked(0, 999, 1), -1);
    check.due("coin of 999", x.chalked(0, 999, 2), -1);
    x.pause(15);
    check.due("minutes that are gone count", x.chalked(0, 9, 0), 4);
    for (int[] n : new int[][] {{1, 0, 0}, {-1, 0, 0}, {0, 1000, 0}, {0, -1, 0}, {0, 0, 3}, {0, 0, -1}}) {
      check.due("chalked none", x.chalked(n[0], n[1], n[2]), -1);
    }
  }
}
