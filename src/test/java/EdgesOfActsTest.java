/** Terms II and III, promises 12, 22 to 30 and 35: each sentence that names an edge, as the document has it. */
public final class EdgesOfActsTest {
  private static final Check check = new Check();
  private static final int[] NONE_OF_TWO = {-1, 2, Integer.MAX_VALUE, Integer.MIN_VALUE};
  private static final String TWO = "fair 20;stall s at 0 turn 0 price 5 shut 15;stall t at 4 turn 1 price 3 shut 18;"
      + "coin a width 5 hole 0;coin b width 3 hole 0;";

  public static void main(String[] args) {
    keptRows();
    keptOfNone();
    seeRows();
    seeRefused();
    seenLength();
    minutesAnswers();
    minutesOfNone();
    lampsAnswers();
    lampsOfNone();
    walks();
    walkRefused();
    pauses();
    pauseRefused();
    buys();
    buyRefused();
    draws();
    gusts();
    cloudsFromNowOn();
    chanceRefused();
    fullSky();
    undone();
    undoKeepsSeed();
    twentyUndone();
    undoRefused();
    seeds();
    statuses();
    check.finish();
  }

  private static void keptRows() {
    check.says("Of what is told as KEPT, the k-th from the oldest on: 0 MINUTE, 1 STALL, 2 COIN");
    ShadowCoins x = Check.at(TWO);
    check.due("none yet", x.kept(0, 0), -1);
    x.walk(1);
    x.buy(1, 1);
    x.walk(0);
    x.pause(1);
    x.buy(0, 0);
    int[][] want = {{4, 1, 1}, {9, 0, 0}};
    for (int k = 0; k < 2; k++) {
      for (int what = 0; what < 3; what++) {
        check.due("kept(" + k + ", " + what + ")", x.kept(k, what), want[k][what]);
      }
    }
    check.says("KEPT is each BOUGHT ware");
    StringBuilder text = new StringBuilder("fair 20;coin a width 5 hole 0;");
    for (int k = 0; k < 6; k++) {
      text.append("stall s").append((char) ('a' + k)).append(" at 0 turn 0 price 1 shut 20;");
    }
    x = Check.at(text.toString());
    for (int k = 5; k >= 0; k--) {
      x.buy(0, k);
      x.pause(1);
    }
    check.due("all six", x.has(8), 6);
    for (int k = 0; k < 6; k++) {
      check.due("minute of " + k, x.kept(k, 0), k);
      check.due("stall of " + k, x.kept(k, 1), 5 - k);
    }
    check.due("behind it", x.kept(6, 0), -1);
    check.says("the last 40 are told");
    // bought and undone over and over: what is told is what is bought
    x = Check.at(TWO);
    for (int k = 0; k < 50; k++) {
      x.buy(0, 0);
      check.due("bought", x.has(8), 1);
      x.undo();
      check.due("undone", x.has(8), 0);
    }
  }

  private static void keptOfNone() {
    check.says("NONE when there is none such, or for others");
    ShadowCoins x = Check.at(TWO);
    x.buy(0, 0);
    for (int k : new int[] {-1, 1, 39, 40, Integer.MAX_VALUE, Integer.MIN_VALUE}) {
      check.due("kept(" + k + ", 0)", x.kept(k, 0), -1);
    }
    for (int what : new int[] {-1, 3, Integer.MAX_VALUE, Integer.MIN_VALUE}) {
      check.due("kept(0, " + what + ")", x.kept(0, what), -1);
    }
  }

  private static void seeRows() {
    check.says("The tape (it goes) tells what is SEEN, 1 to 16 rows of four bytes: how many rows");
    ShadowCoins x = Check.at(TWO);
    check.due("one", Check.see(x, 0, 0, 0, 5), 1);
    check.due("has", x.has(9), 1);
    check.due("the tape is gone", x.end(1), false);
    int[] rows = new int[64];
    for (int k = 3; k < 64; k += 4) {
      rows[k] = 5;
    }
    check.due("sixteen", Check.see(x, rows), 16);
    check.due("has", x.has(9), 16);
    check.due("all of them", x.minutes(0), 21);
    rows[63] = 6;
    Check.see(x, rows);
    check.due("the sixteenth is not so", x.lamps(1), 1 << 15);
    check.due("new rows are for the old ones", Check.see(x, 1, 1, 0, 3), 1);
    check.due("has", x.has(9), 1);
  }

  private static void seeRefused() {
    check.says("NONE, refused (1), all staying, when it is none such");
    ShadowCoins x = Check.at(TWO);
    Check.see(x, 0, 0, 0, 5, 1, 1, 0, 4);
    int[][] wrong = {{}, {0}, {0, 0, 0}, {0, 0, 0, 5, 0}, {0, 0, 0, 5, 0, 0, 0}, new int[68], {2, 0, 0, 5}, {0, 2, 0, 5},
        {255, 0, 0, 5}, {0, 255, 0, 5}, {0, 0, 0, 5, 2, 0, 0, 5}, {0, 0, 0, 5, 0, 2, 0, 5}};
    for (int k = 0; k < wrong.length; k++) {
      check.due("wrong " + k, Check.see(x, wrong[k]), -1);
      check.due("refused", x.status(1), k + 1);
      check.due("the tape is gone", x.end(1), false);
      check.due("rows", x.has(9), 2);
      check.due("which", x.lamps(1), 2);
    }
    x = new ShadowCoins();
    check.due("without a fair", Check.see(x, 0, 0, 0, 5), -1);
    check.due("refused", x.status(1), 1);
    check.due("without coins", Check.see(Check.at("fair 20;stall s at 0 turn 0 price 5 shut 15;"), 0, 0, 0, 0), -1);
    check.due("without stalls", Check.see(Check.at("fair 20;coin a width 5 hole 0;"), 0, 0, 0, 5), -1);
  }

  private static void seenLength() {
    check.says("SEEN are rows of COIN, STALL, the length of a SHADOW (two bytes, the higher first)");
    ShadowCoins x = Check.at(TWO + "shade width*100+turn*10+min(minute,1);");
    Check.see(x, 0, 1, 1, 255);
    check.due("511", x.minutes(0), 20);
    Check.see(x, 0, 0, 1, 244);
    check.due("500", x.minutes(0), 1);
    Check.see(x, 0, 0, 244, 1);
    check.due("the lower first", x.minutes(0), 0);
    Check.see(x, 1, 0, 1, 44);
    check.due("300", x.minutes(0), 1);
    Check.see(x, 0, 0, 0, 244);
    check.due("without the higher", x.minutes(0), 0);
    x = Check.at(TWO + "shade 999;cloud 0 to 0;");
    Check.see(x, 0, 0, 3, 231);
    check.due("999", x.minutes(0), 20);
    Check.see(x, 0, 0, 0, 0);
    check.due("0", x.minutes(0), 1);
  }

  private static void minutesAnswers() {
    check.says("MINUTES by what is SEEN (all, if nothing is): how many (what 0), the first, the last (1, 2; NONE without)");
    ShadowCoins x = Check.at(TWO + "shade width+minute/5;");
    int[] all = {21, 0, 20};
    for (int what = 0; what < 3; what++) {
      check.due("all", x.minutes(what), all[what]);
    }
    int[][] seen = {{5, 5, 0, 4}, {6, 5, 5, 9}, {8, 5, 15, 19}, {9, 1, 20, 20}, {10, 0, -1, -1}, {4, 0, -1, -1}};
    for (int[] s : seen) {
      Check.see(x, 0, 0, 0, s[0]);
      for (int what = 0; what < 3; what++) {
        check.due("minutes(" + what + ") of " + s[0], x.minutes(what), s[what + 1]);
      }
    }
    check.says("MINUTES (0 and on, to the fair's minutes) in which all is so");
    Check.see(x, 0, 0, 0, 6, 1, 1, 0, 4);
    check.due("both", x.minutes(0), 5);
    Check.see(x, 0, 0, 0, 6, 1, 1, 0, 5);
    check.due("one or the other, never both", x.minutes(0), 0);
    check.due("one or the other, never both", x.minutes(1), -1);
    check.due("one or the other, never both", x.minutes(2), -1);
    Check.see(x, 0, 0, 0, 5);
    x.pause(20);
    check.due("minutes that are gone", x.minutes(0), 5);
    check.due("minutes that are gone", x.minutes(1), 0);
  }

  private static void minutesOfNone() {
    check.says("NONE without a fair, or for others");
    ShadowCoins x = Check.at(TWO);
    for (int what : new int[] {-1, 3, Integer.MAX_VALUE, Integer.MIN_VALUE}) {
      check.due("minutes(" + what + ")", x.minutes(what), -1);
      check.due("lamps(" + what + ")", x.lamps(what), -1);
    }
    x = new ShadowCoins();
    for (int what = 0; what < 3; what++) {
      check.due("minutes(" + what + ")", x.minutes(what), -1);
      check.due("lamps(" + what + ")", x.lamps(what), -1);
    }
    Check.fair(x, "?");
    check.due("a fair with a FAULT is none", x.minutes(0), -1);
  }

  private static void lamps(ShadowCoins x, int rows, int which, int minute) {
    check.due("how many", x.lamps(0), rows);
    check.due("which", x.lamps(1), which);
    check.due("when", x.lamps(2), minute);
  }

  private static void lampsAnswers() {
    check.says("LAMPS are the fewest rows of these that must be by a lamp, so that all others are so in one MINUTE");
    ShadowCoins x = Check.at(TWO + "shade width+minute;");
    Check.see(x, 0, 0, 0, 25, 0, 0, 0, 5, 1, 0, 0, 3);
    lamps(x, 1, 1, 0);
    Check.see(x, 0, 0, 0, 6, 0, 0, 0, 5, 1, 0, 0, 4);
    lamps(x, 1, 2, 1);
    Check.see(x, 0, 0, 0, 5, 0, 0, 0, 25, 1, 0, 0, 23);
    lamps(x, 1, 1, 20);
    check.says("in the first such MINUTE, which rows, as bits");
    Check.see(x, 0, 0, 0, 25, 0, 0, 0, 5);
    lamps(x, 1, 1, 0);
    Check.see(x, 0, 0, 0, 8, 0, 0, 0, 7, 0, 0, 0, 9);
    lamps(x, 2, 5, 2);
    Check.see(x, 0, 0, 0, 4);
    lamps(x, 1, 1, 0);
    Check.see(x, 0, 0, 0, 9);
    lamps(x, 0, 0, 4);
    int[] rows = new int[64];
    Check.see(x, rows);
    lamps(x, 16, 65535, 0);
    x.pause(20);
    Check.see(x, 0, 0, 0, 9);
    lamps(x, 0, 0, 4);
    check.says("LAMPS are the fewest rows of these");
    lamps(Check.at(TWO), 0, 0, 0);
  }

  private static void lampsOfNone() {
    check.says("LAMPS: how many rows (what 0), which, as bits (1), the MINUTE (2). NONE without a fair, or for others");
    ShadowCoins x = Check.at("fair 20;");
    lamps(x, 0, 0, 0);
    check.due("lamps(3)", x.lamps(3), -1);
    check.due("lamps(-1)", x.lamps(-1), -1);
  }

  private static void walks() {
    check.says("one walks to a STALL: a MINUTE for each place between");
    ShadowCoins x = Check.at(TWO + "stall z at 16 turn 0 price 0 shut 0;");
    check.due("to 4", x.walk(1), 4);
    check.due("place", x.has(5), 4);
    check.due("minute", x.has(4), 4);
    check.due("back to 0", x.walk(0), 8);
    check.due("place", x.has(5), 0);
    check.due("to 4", x.walk(1), 12);
    check.says("The MINUTE is no more than the fair's minutes");
    check.due("to 16 in 24", x.walk(2), -1);
    check.due("place", x.has(5), 4);
    check.due("minute", x.has(4), 12);
    x.pause(4);
    check.due("to 0 in 20", x.walk(0), 20);
    check.due("to 4 in 24", x.walk(1), -1);
    x = Check.at(TWO + "stall z at 20 turn 0 price 0 shut 0;stall y at 21 turn 0 price 0 shut 0;");
    check.due("to 21", x.walk(3), -1);
    check.due("to 20", x.walk(2), 20);
    x = Check.at("fair 400;stall a at 99 turn 0 price 0 shut 0;stall b at 0 turn 0 price 0 shut 0;");
    for (int k = 1; k <= 4; k++) {
      check.due("all along the row", x.walk(k % 2 == 1 ? 0 : 1), 99 * k);
    }
    check.due("a fifth time", x.walk(0), -1);
  }

  private static void walkRefused() {
    check.says("NONE, refused (2), when one is there, it would be later than the fair, or there is none such");
    ShadowCoins x = Check.at(TWO + "stall u at 4 turn 0 price 0 shut 0;stall far at 99 turn 0 price 0 shut 0;");
    check.due("there", x.walk(0), -1);
    check.due("refused", x.status(2), 1);
    x.walk(1);
    check.due("there", x.walk(1), -1);
    check.due("another stall there", x.walk(2), -1);
    check.due("later than the fair", x.walk(3), -1);
    for (int none : new int[] {-1, 4, Integer.MAX_VALUE, Integer.MIN_VALUE}) {
      check.due("walk(" + none + ")", x.walk(none), -1);
    }
    check.due("refused", x.status(2), 8);
    check.due("minute", x.has(4), 4);
    check.due("place", x.has(5), 4);
    check.due("what is refused is no ACT", x.has(10), 1);
  }

  private static void pauses() {
    check.says("One waits n MINUTES (1 .. 400): true");
    ShadowCoins x = Check.at("fair 400;");
    check.due("1", x.pause(1), true);
    check.due("minute", x.has(4), 1);
    check.due("399", x.pause(399), true);
    check.due("minute", x.has(4), 400);
    x = Check.at("fair 400;");
    check.due("400", x.pause(400), true);
    check.due("minute", x.has(4), 400);
  }

  private static void pauseRefused() {
    check.says("false, refused (3), when it would be later than the fair, or for others");
    ShadowCoins x = Check.at("fair 20;");
    check.due("21", x.pause(21), false);
    check.due("refused", x.status(3), 1);
    check.due("20", x.pause(20), true);
    int[] wrong = {1, 0, -1, -20, 400, 401, Integer.MAX_VALUE, Integer.MIN_VALUE};
    for (int k = 0; k < wrong.length; k++) {
      check.due("pause(" + wrong[k] + ")", x.pause(wrong[k]), false);
      check.due("refused", x.status(3), 2 + k);
      check.due("minute", x.has(4), 20);
      check.due("what is refused is no ACT", x.has(10), 1);
    }
    x = Check.at("fair 400;");
    check.due("401", x.pause(401), false);
    check.due("0", x.pause(0), false);
    check.due("-1", x.pause(-1), false);
    check.due("minute", x.has(4), 0);
  }

  private static void buys() {
    check.says("buys with a COIN at a STALL that is where one is (its ware is BOUGHT now; no MINUTE goes by)");
    ShadowCoins x = Check.at(TWO);
    check.due("buy", x.buy(0, 0), true);
    check.due("minute", x.has(4), 0);
    check.due("bought", x.stall(0, 4), 1);
    check.due("bought", x.stall(1, 4), 0);
    check.due("has", x.has(6), 1);
    check.due("an ACT", x.has(10), 1);
    check.says("A ware can be BOUGHT once; the COIN is kept");
    x.walk(1);
    check.due("with the same coin", x.buy(0, 1), true);
    check.due("has", x.has(6), 2);
    check.due("again, with the other one", x.buy(1, 1), false);
    // at the edges of its time
    x = Check.at(TWO);
    x.pause(14);
    check.due("the last minute ahead of its shut", x.buy(0, 0), true);
    x = Check.at(TWO);
    x.pause(15);
    check.due("the minute of its shut", x.buy(0, 0), false);
    x = Check.at("fair 20;stall s at 0 turn 0 price 5 shut 21;coin a width 5 hole 0;");
    x.pause(20);
    check.due("the fair's last minute", x.buy(0, 0), true);
    check.due("kept", x.kept(0, 0), 20);
  }

  private static void buyRefused() {
    check.says("false, refused (2), when one is not there, it is BOUGHT, the COIN does not BUY, or there are none such");
    ShadowCoins x = Check.at(TWO + "cloud 1 to 1;refuse minute=2;");
    int refused = 0;
    check.due("one is not there", x.buy(0, 1), false);
    check.due("refused", x.status(2), ++refused);
    check.due("too short", x.buy(1, 0), false);
    check.due("refused", x.status(2), ++refused);
    for (int none : NONE_OF_TWO) {
      check.due("coin " + none, x.buy(none, 0), false);
      check.due("refused", x.status(2), ++refused);
      check.due("stall " + none, x.buy(0, none), false);
      check.due("refused", x.status(2), ++refused);
    }
    x.pause(1);
    check.due("in a cloud", x.buy(0, 0), false);
    check.due("refused", x.status(2), ++refused);
    x.pause(1);
    check.due("refuse holds", x.buy(0, 0), false);
    check.due("refused", x.status(2), ++refused);
    check.due("nothing is bought", x.has(6), 0);
    check.due("nothing is kept", x.has(8), 0);
    check.due("what is refused is no ACT", x.has(10), 2);
    x.pause(1);
    check.due("now", x.buy(0, 0), true);
    check.due("it is bought", x.buy(0, 0), false);
    check.due("refused", x.status(2), ++refused);
    check.due("kept", x.has(8), 1);
    check.due("acts", x.has(10), 4);
    // as an image tells it, too
    x = Check.at(TWO);
    Check.on(x, Check.sealed(0, 0, 0, 1, 0));
    check.due("it is bought by an image", x.buy(0, 0), false);
  }

  private static long drawn = 1;

  /** x (the seed) becomes (1103515245 x + 12345) mod 2 to the 31; floor(x / 64) mod m. */
  private static int draw(int m) {
    drawn = (1103515245L * drawn + 12345L) & 0x7fffffffL;
    return (int) (drawn / 64 % m);
  }

  private static void draws() {
    check.says("A DRAW of m: x (the seed) becomes (1103515245 x + 12345) mod 2 to the 31; floor(x / 64) mod m");
    // by hand: 1 becomes 1103527590, by 64 it is 17242618, of 100 it is 18
    check.due("gust 18", Check.at("fair 20;gust 18;").chance(1), 0);
    check.due("gust 19", Check.at("fair 20;gust 19;").chance(1), 1);
    for (int seed : new int[] {0, 1, 63, 64, 1 << 30, Integer.MAX_VALUE}) {
      drawn = seed;
      for (int k = 1; k <= 8; k++) {
        int number = draw(100);
        for (int gust = Math.max(0, number - 1); gust <= Math.min(100, number + 2); gust++) {
          ShadowCoins x = Check.at("fair 20;gust " + gust + ";");
          x.seed(seed);
          if (k > 1) {
            x.chance(k - 1);
            x.undo();
            x.seed(seed);
            x.chance(k - 1);
          }
          check.due("draw " + k + " by " + seed + ", gust " + gust, x.chance(1), number < gust ? 1 : 0);
        }
      }
    }
  }

  private static void gusts() {
    check.says("ahead of each MINUTE a DRAW of 100: below gust");
    ShadowCoins x = Check.at("fair 400;gust 0;");
    check.due("never", x.chance(400), 0);
    x = Check.at("fair 400;gust 100;");
    check.due("each time", x.chance(16), 16);
    x = Check.at("fair 400;");
    check.due("without", x.chance(400), 0);
    check.due("minute", x.has(4), 400);
    check.due("one ACT", x.has(10), 1);
  }

  private static void cloudsFromNowOn() {
    check.says("this is a MINUTE of a CLOUD from now on (as a CLOUD of one MINUTE");
    ShadowCoins x = Check.at("fair 20;stall s at 0 turn 0 price 5 shut 21;coin a width 5 hole 0;gust 100;cloud 9 to 9;");
    x.pause(3);
    check.due("two", x.chance(2), 2);
    check.due("clouds", x.has(3), 3);
    for (int minute = 0; minute <= 20; minute++) {
      boolean cloudy = minute == 3 || minute == 4 || minute == 9;
      check.due("shadow in " + minute, x.shadow(0, 0, minute), cloudy ? 0 : 5);
      check.due("buys in " + minute, x.buys(0, 0, minute), cloudy ? 0 : 1);
    }
    check.due("one is behind them", x.has(7), 0);
    x.pause(15);
    check.due("the last minute", x.chance(1), -1);
    x = Check.at("fair 20;stall s at 0 turn 0 price 5 shut 21;coin a width 5 hole 0;gust 100;");
    x.pause(19);
    check.due("to the last minute", x.chance(1), 1);
    check.due("in 19", x.shadow(0, 0, 19), 0);
    check.due("in 20", x.shadow(0, 0, 20), 5);
    check.due("in 20", x.has(7), 0);
  }

  private static void chanceRefused() {
    check.says("One waits n MINUTES (1 .. 400) by the seed, one ACT: how many clouds came; NONE, refused (3), when it would be later than the fair, or for others");
    ShadowCoins x = Check.at("fair 400;gust 50;");
    check.due("400", x.chance(400) >= 0, true);
    check.due("minute", x.has(4), 400);
    check.due("one ACT", x.has(10), 1);
    check.due("1", x.chance(1), -1);
    check.due("refused", x.status(3), 1);
    x = Check.at("fair 20;gust 100;");
    int[] wrong = {0, -1, 21, 400, 401, Integer.MAX_VALUE, Integer.MIN_VALUE};
    for (int k = 0; k < wrong.length; k++) {
      check.due("chance(" + wrong[k] + ")", x.chance(wrong[k]), -1);
      check.due("refused", x.status(3), k + 1);
    }
    check.due("minute", x.has(4), 0);
    check.due("clouds", x.has(3), 0);
    check.due("acts", x.has(10), 0);
    check.due("20", x.chance(20), 16);
    x = Check.at("fair 400;");
    check.due("401", x.chance(401), -1);
    // what is refused makes no DRAW
    x = Check.at("fair 20;gust 19;");
    x.chance(21);
    x.chance(0);
    check.due("the first DRAW, 18", x.chance(1), 1);
  }

  private static void fullSky() {
    check.says("if 16 CLOUDS are there, the DRAW is made alike, and none comes");
    ShadowCoins x = Check.at("fair 100;gust 100;");
    check.due("fifteen", x.chance(15), 15);
    check.due("the sixteenth", x.chance(1), 1);
    check.due("none comes", x.chance(1), 0);
    check.due("clouds", x.has(3), 16);
    check.due("the seventeenth minute is clear", x.image(), 38);
    x = Check.at("fair 100;gust 100;" + "cloud 99 to 99;".repeat(8));
    check.due("eight", x.chance(20), 8);
    check.due("clouds", x.has(3), 16);
    // 20 draws were made, by which the next is the 21st
    drawn = 1;
    for (int k = 0; k < 20; k++) {
      draw(100);
    }
    int number = draw(100);
    check.due("a fair with a gust above it", Check.fair(x, "fair 100;gust " + (number + 1) + ";"), 2);
    check.due("the 21st", x.chance(1), 1);
    x = Check.at("fair 100;gust 100;" + "cloud 99 to 99;".repeat(8));
    x.chance(20);
    Check.fair(x, "fair 100;gust " + number + ";");
    check.due("the 21st", x.chance(1), 0);
  }

  private static void undone() {
    check.says("The latest ACT is undone");
    ShadowCoins x = Check.at(TWO + "gust 100;");
    x.pause(2);
    x.buy(0, 0);
    x.walk(1);
    x.chance(3);
    x.buy(1, 1);
    int[][] has = {{3, 9, 4, 1, 1, 4}, {0, 6, 4, 1, 1, 3}, {0, 2, 0, 1, 1, 2}, {0, 2, 0, 0, 0, 1}, {0, 0, 0, 0, 0, 0}};
    for (int[] h : has) {
      check.due("undo", x.undo(), true);
      check.due("clouds", x.has(3), h[0]);
      check.due("minute", x.has(4), h[1]);
      check.due("place", x.has(5), h[2]);
      check.due("bought", x.has(6), h[3]);
      check.due("kept", x.has(8), h[4]);
      check.due("acts", x.has(10), h[5]);
      check.due("the sky", x.shadow(0, 0, 7), h[0] == 0 ? 5 : 0);
    }
    check.due("no more", x.undo(), false);
    // an ACT anew in the place of the one that was undone
    x.chance(1);
    x.undo();
    x.pause(5);
    check.due("a cloud anew", x.chance(1), 1);
    check.due("in 5", x.shadow(0, 0, 5), 0);
    check.due("not in 0", x.shadow(0, 0, 0), 5);
    x.undo();
    x.undo();
    check.due("buy anew", x.buy(0, 0), true);
    check.due("kept", x.kept(0, 0), 0);
  }

  private static void undoKeepsSeed() {
    check.says("the seed stays");
    ShadowCoins x = Check.at("fair 20;gust 19;");
    check.due("the first DRAW, 18", x.chance(1), 1);
    x.undo();
    drawn = 1;
    draw(100);
    int second = draw(100);
    check.due("the second DRAW", x.chance(1), second < 19 ? 1 : 0);
    x = Check.at("fair 20;gust " + (second + 1) + ";");
    x.chance(1);
    x.undo();
    check.due("the second DRAW", x.chance(1), 1);
    x = Check.at("fair 20;gust 19;");
    x.pause(1);
    x.seed(12345);
    x.undo();
    drawn = 12345;
    int came = 0;
    for (int k = 0; k < 12; k++) {
      came += draw(100) < 19 ? 1 : 0;
    }
    check.due("a seed is no ACT", x.chance(12), came);
  }

  private static void twentyUndone() {
    check.says("The last 20 can be undone");
    for (int acts : new int[] {1, 19, 20, 21, 40, 41}) {
      ShadowCoins x = Check.at("fair 400;");
      for (int k = 1; k <= acts; k++) {
        x.pause(k % 3 + 1);
      }
      int can = Math.min(20, acts);
      check.due("acts", x.has(10), can);
      int minute = x.has(4);
      for (int k = acts; k > acts - can; k--) {
        check.due("undo", x.undo(), true);
        minute -= k % 3 + 1;
        check.due("minute", x.has(4), minute);
      }
      check.due("no more", x.undo(), false);
      check.due("refused", x.status(4), 1);
      check.due("minute", x.has(4), minute);
      check.due("an ACT anew", x.pause(1), true);
      check.due("can be undone", x.undo(), true);
      check.due("it alone", x.undo(), false);
    }
  }

  private static void undoRefused() {
    check.says("false, refused (4), when none can be");
    ShadowCoins x = new ShadowCoins();
    check.due("without a fair", x.undo(), false);
    check.due("refused", x.status(4), 1);
    x = Check.at(TWO);
    check.due("ahead of any ACT", x.undo(), false);
    check.due("refused", x.status(4), 1);
    x.pause(3);
    Check.fair(x, TWO);
    check.due("an ACT in an earlier fair", x.undo(), false);
    check.due("refused", x.status(4), 2);
    x.pause(3);
    Check.on(x, Check.sealed(0, 1, 0, 0, 0));
    check.due("an ACT ahead of an image", x.undo(), false);
    check.due("refused", x.status(4), 3);
    check.due("minute", x.has(4), 1);
    // see, seed, image and what is refused are no ACTS
    Check.see(x, 0, 0, 0, 5);
    x.seed(5);
    x.image();
    x.walk(9);
    x.pause(0);
    x.buy(9, 9);
    x.chance(0);
    check.due("none of these", x.undo(), false);
    check.due("seen", x.has(9), 1);
  }

  private static void seeds() {
    check.says("The seed: true; false, refused (5), when it is below 0. (It is 1 at first.)");
    ShadowCoins x = Check.at("fair 20;gust 19;");
    check.due("-1", x.seed(-1), false);
    check.due("refused", x.status(5), 1);
    check.due("least", x.seed(Integer.MIN_VALUE), false);
    check.due("refused", x.status(5), 2);
    check.due("it is 1 still: the first DRAW, 18", x.chance(1), 1);
    check.due("0", x.seed(0), true);
    // 0 becomes 12345, by 64 it is 192, of 100 it is 92
    check.due("92", x.chance(1), 0);
    check.due("0", x.seed(0), true);
    Check.fair(x, "fair 20;gust 93;");
    check.due("92", x.chance(1), 1);
    check.due("greatest", x.seed(Integer.MAX_VALUE), true);
    Check.fair(x, "fair 20;gust 92;");
    x.seed(0);
    check.due("92", x.chance(1), 0);
    check.due("refused", x.status(5), 2);
    // ahead of a fair, too
    x = new ShadowCoins();
    check.due("without a fair", x.seed(0), true);
    Check.fair(x, "fair 20;gust 93;");
    check.due("92", x.chance(1), 1);
  }

  private static void statuses() {
    check.says("How many were refused: 0 feed(), end(); 1 fair(), see(); 2 walk(), buy(); 3 pause(), chance(); 4 undo(); 5 seed(), on()");
    ShadowCoins x = Check.at("fair 20;");
    int[] want = new int[6];
    for (int k = 0; k < 12; k++) {
      int sort = refuseOne(x, k);
      want[sort]++;
      for (int what = 0; what < 6; what++) {
        check.due("status(" + what + ")", x.status(what), want[what]);
      }
    }
    check.says("NONE for others");
    for (int what : new int[] {-1, 6, Integer.MAX_VALUE, Integer.MIN_VALUE}) {
      check.due("status(" + what + ")", x.status(what), -1);
    }
    Check.ask(x, "?");
    for (int what = 0; what < 6; what++) {
      check.due("ask() is none of them", x.status(what), want[what]);
    }
  }

  /** Makes a call that is refused, and tells by which sort it is counted. */
  private static int refuseOne(ShadowCoins x, int k) {
    switch (k) {
      case 0:
        x.end(-1);
        return 0;
      case 1:
        x.end(1);
        return 0;
      case 2:
        x.fair();
        return 1;
      case 3:
        x.see();
        return 1;
      case 4:
        x.walk(0);
        return 2;
      case 5:
        x.buy(0, 0);
        return 2;
      case 6:
        x.pause(21);
        return 3;
      case 7:
        x.chance(21);
        return 3;
      case 8:
        x.undo();
        return 4;
      case 9:
        x.seed(-1);
        return 5;
      case 10:
        x.on();
        return 5;
      default:
        for (int n = 0; n < 80; n++) {
          x.feed(0, 0, 0, 0, 0);
        }
        x.feed(0, 0, 0, 0, 0);
        return 0;
    }
  }
}
