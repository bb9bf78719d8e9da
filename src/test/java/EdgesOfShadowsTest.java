/** Terms II and III, promises 10, 11 and 13 to 21: each sentence that names an edge, as the document has it. */
public final class EdgesOfShadowsTest {
  private static final Check check = new Check();
  private static final int[] NO_MINUTES = {-1, 21, 400, 401, Integer.MAX_VALUE, Integer.MIN_VALUE};
  private static final int[] NONE_OF_TWO = {-1, 2, Integer.MAX_VALUE, Integer.MIN_VALUE};
  /** A fair of two stalls and two coins, the first of which has 5 everywhere, the second one 3. */
  private static final String TWO = "fair 20;stall s at 0 turn 0 price 5 shut 15;stall t at 4 turn 1 price 3 shut 18;"
      + "coin a width 5 hole 0;coin b width 3 hole 0;";

  public static void main(String[] args) {
    atFirst();
    lengths();
    clouds();
    shadowsOfNone();
    shut();
    lastMinuteBuys();
    price();
    refused();
    boughtOrNot();
    firstAndLast();
    whenOfNone();
    roundEnds();
    roundWaits();
    roundSoonest();
    roundTies();
    roundNone();
    roundOfNone();
    blockedFewest();
    blockedTies();
    blockedOfNone();
    strikeLongest();
    strikeOfNone();
    handyMost();
    handyOfNone();
    oddFirst();
    oddOfNone();
    bridgeFewest();
    bridgeOfNone();
    changePairs();
    changeOfNone();
    chalkedPairs();
    chalkedOfNone();
    largestFair();
    check.finish();
  }

  private static void atFirst() {
    check.says("It is MINUTE 0 at first, one is at place 0, nothing is BOUGHT");
    ShadowCoins x = Check.at(TWO);
    check.due("minute", x.has(4), 0);
    check.due("place", x.has(5), 0);
    check.due("bought", x.has(6), 0);
    check.due("bought", x.stall(0, 4), 0);
    check.due("bought", x.stall(1, 4), 0);
  }

  private static void length(String sum, int want) {
    check.due("shade " + sum, Check.at(TWO + "shade " + sum + ";").shadow(0, 0, 5), want);
  }

  private static void lengths() {
    check.says("the SUM of shade, 0 .. 999 (below is 0, above 999)");
    length("0", 0);
    length("1", 1);
    length("0-1", 0);
    length("0-9999*9999", 0);
    length("998", 998);
    length("999", 999);
    length("1000", 999);
    length("9999*9999", 999);
    // refuse looks at the SHADOW, not at the SUM
    check.due("long", Check.at(TWO + "shade 1234;refuse long=999;").buys(0, 0, 5), 0);
    check.due("long", Check.at(TWO + "shade 1234;refuse long>999;").buys(0, 0, 5), 1);
  }

  private static void clouds() {
    check.says("0 in a MINUTE of a CLOUD (both ends, too)");
    ShadowCoins x = Check.at(TWO + "cloud 0 to 0;cloud 4 to 6;cloud 6 to 7;cloud 20 to 400;shade 5+minute;");
    for (int minute = 0; minute <= 20; minute++) {
      boolean cloudy = minute == 0 || minute >= 4 && minute <= 7 || minute == 20;
      check.due("shadow in " + minute, x.shadow(0, 0, minute), cloudy ? 0 : 5 + minute);
      check.due("buys in " + minute, x.buys(0, 0, minute), cloudy || minute >= 15 ? 0 : 1);
    }
    check.due("at the other stall", x.shadow(1, 1, 4), 0);
    x = Check.at("fair 400;stall s at 0 turn 0 price 5 shut 400;coin a width 5 hole 0;cloud 400 to 400;cloud 398 to 398;");
    check.due("shadow in 399", x.shadow(0, 0, 399), 5);
    check.due("shadow in 400", x.shadow(0, 0, 400), 0);
    check.due("buys in 398", x.buys(0, 0, 398), 0);
    x.pause(400);
    check.due("it is cloudy in 400", x.has(7), 1);
    check.says("if there is no CLOUD");
    x = Check.at("fair 20;stall free at 0 turn 0 price 0 shut 20;coin a width 5 hole 0;cloud 4 to 6;");
    int[] free = {1, 0, 0, 0, 1};
    for (int minute = 3; minute <= 7; minute++) {
      check.due("free in " + minute, x.buys(0, 0, minute), free[minute - 3]);
    }
  }

  private static void shadowsOfNone() {
    check.says("The SHADOW of a COIN at a STALL in a MINUTE (0 and on, to the fair's minutes); NONE when there are none such");
    ShadowCoins x = Check.at(TWO);
    check.due("in 0", x.shadow(1, 1, 0), 3);
    check.due("in 20", x.shadow(1, 1, 20), 3);
    for (int minute : NO_MINUTES) {
      check.due("shadow in " + minute, x.shadow(0, 0, minute), -1);
      check.due("buys in " + minute, x.buys(0, 0, minute), -1);
    }
    for (int none : NONE_OF_TWO) {
      check.due("shadow of coin " + none, x.shadow(none, 0, 0), -1);
      check.due("shadow at stall " + none, x.shadow(0, none, 0), -1);
      check.due("buys of coin " + none, x.buys(none, 0, 0), -1);
      check.due("buys at stall " + none, x.buys(0, none, 0), -1);
    }
    x.pause(20);
    check.due("a minute that is gone", x.shadow(0, 0, 0), 5);
    check.due("a minute that is gone", x.buys(0, 0, 0), 1);
  }

  private static void shut() {
    check.says("if this is below its shut");
    ShadowCoins x = Check.at(TWO);
    check.due("one below", x.buys(0, 0, 14), 1);
    check.due("at it", x.buys(0, 0, 15), 0);
    check.due("one above", x.buys(0, 0, 16), 0);
    x = Check.at("fair 20;stall s at 0 turn 0 price 0 shut 0;stall t at 0 turn 0 price 0 shut 1;coin a width 5 hole 0;");
    check.due("shut 0", x.buys(0, 0, 0), 0);
    check.due("shut 1", x.buys(0, 1, 0), 1);
    check.due("shut 1", x.buys(0, 1, 1), 0);
  }

  private static void lastMinuteBuys() {
    check.says("no more than the fair's minutes");
    ShadowCoins x = Check.at("fair 20;stall s at 0 turn 0 price 5 shut 400;coin a width 5 hole 0;");
    check.due("in the last", x.buys(0, 0, 20), 1);
    check.due("behind it", x.buys(0, 0, 21), -1);
    check.due("last", x.when(0, 0, 1), 20);
    x = Check.at("fair 400;stall s at 0 turn 0 price 5 shut 400;coin a width 5 hole 0;");
    check.due("in 399", x.buys(0, 0, 399), 1);
    check.due("in 400, which is shut", x.buys(0, 0, 400), 0);
    check.due("the shadow in 400", x.shadow(0, 0, 400), 5);
    check.due("last", x.when(0, 0, 1), 399);
  }

  private static void price() {
    check.says("its SHADOW is as long as the price, or longer");
    ShadowCoins x = Check.at("fair 20;stall s at 0 turn 0 price 5 shut 20;stall free at 0 turn 0 price 0 shut 20;"
        + "stall dear at 0 turn 0 price 999 shut 20;coin a width 4 hole 0;coin b width 5 hole 0;coin c width 6 hole 0;"
        + "coin n width 0 hole 0;coin m width 99 hole 0;shade max(width,(width-98)*2000);");
    int[][] want = {{0, 1, 0}, {1, 1, 0}, {1, 1, 0}, {0, 1, 0}, {1, 1, 1}};
    for (int coin = 0; coin < 5; coin++) {
      for (int stall = 0; stall < 3; stall++) {
        check.due("coin " + coin + " at " + stall, x.buys(coin, stall, 7), want[coin][stall]);
      }
    }
  }

  private static void refused() {
    check.says("the TEST of refuse does not hold");
    ShadowCoins x = Check.at(TWO + "refuse width=3 or minute=7 or turn=1 and minute>9;");
    check.due("the first one", x.buys(0, 0, 6), 1);
    check.due("in 7", x.buys(0, 0, 7), 0);
    check.due("in 8", x.buys(0, 0, 8), 1);
    check.due("the second one", x.buys(1, 1, 6), 0);
    check.due("at the second one in 9", x.buys(0, 1, 9), 1);
    check.due("at the second one in 10", x.buys(0, 1, 10), 0);
    check.due("the shadow is there", x.shadow(1, 1, 6), 3);
    x = Check.at(TWO + "shade width+minute;refuse long>price*2 or hole>0 or price=3;");
    check.due("twice the price", x.buys(0, 0, 5), 1);
    check.due("more", x.buys(0, 0, 6), 0);
    check.due("that price", x.buys(0, 1, 5), 0);
  }

  private static void boughtOrNot() {
    check.says("Whether a COIN BUYS at a STALL in a MINUTE (BOUGHT there or not): 1 or 0");
    ShadowCoins x = Check.at(TWO);
    x.buy(0, 0);
    check.due("bought", x.buys(0, 0, 0), 1);
    check.due("bought, later", x.buys(0, 0, 14), 1);
    check.due("bought, with the other", x.buys(1, 0, 0), 0);
    check.due("first", x.when(0, 0, 0), 0);
    check.due("handy", x.handy(0), 0);
    check.due("odd", x.odd(0, 0, 1), -1);
    check.due("strike", x.strike(0, 0), 3);
  }

  private static void firstAndLast() {
    check.says("FIRST at a STALL is the least MINUTE, now or later, in which it BUYS there (wherever one is); its LAST the greatest");
    ShadowCoins x = Check.at("fair 20;stall s at 9 turn 0 price 8 shut 19;coin a width 3 hole 0;coin n width 0 hole 0;"
        + "cloud 7 to 9;shade width+minute*min(width,1);");
    check.due("first", x.when(0, 0, 0), 5);
    check.due("last", x.when(0, 0, 1), 18);
    x.pause(5);
    check.due("first, now", x.when(0, 0, 0), 5);
    x.pause(1);
    check.due("first, now", x.when(0, 0, 0), 6);
    x.pause(1);
    check.due("first, later", x.when(0, 0, 0), 10);
    check.due("last, later", x.when(0, 0, 1), 18);
    x.pause(11);
    check.due("first and last, now", x.when(0, 0, 0), 18);
    check.due("first and last, now", x.when(0, 0, 1), 18);
    x.pause(1);
    check.due("first, gone", x.when(0, 0, 0), -1);
    check.due("last, gone", x.when(0, 0, 1), -1);
    // in the first minute, and in the last one of the fair
    x = Check.at("fair 20;stall s at 9 turn 0 price 1 shut 21;stall t at 9 turn 0 price 1 shut 1;coin a width 3 hole 0;"
        + "cloud 1 to 19;");
    check.due("first in 0", x.when(0, 0, 0), 0);
    check.due("last in 20", x.when(0, 0, 1), 20);
    check.due("last in 0", x.when(0, 1, 1), 0);
    x.pause(20);
    check.due("first in 20", x.when(0, 0, 0), 20);
    check.due("last in 20", x.when(0, 0, 1), 20);
  }

  private static void whenOfNone() {
    check.says("NONE when it never BUYS there, there are none such, or for others");
    ShadowCoins x = Check.at(TWO);
    check.due("never", x.when(1, 0, 0), -1);
    check.due("never", x.when(1, 0, 1), -1);
    for (int none : NONE_OF_TWO) {
      check.due("when of coin " + none, x.when(none, 0, 0), -1);
      check.due("when at stall " + none, x.when(0, none, 1), -1);
      check.due("when of what " + none, x.when(0, 0, none), -1);
    }
  }

  private static void round(ShadowCoins x, int coin, int end, int... order) {
    check.due("round end", x.round(coin, -1), end);
    for (int k = 0; k < order.length; k++) {
      check.due("round " + k, x.round(coin, k), order[k]);
    }
    check.due("round behind it", x.round(coin, order.length), -1);
    for (int k : new int[] {-2, 6, Integer.MAX_VALUE, Integer.MIN_VALUE}) {
      check.due("round " + k, x.round(coin, k), -1);
    }
  }

  private static void roundEnds() {
    check.says("an order of all STALLS whose ware is not BOUGHT, from where one is now");
    ShadowCoins x = Check.at(TWO);
    round(x, 0, 4, 0, 1);
    x.buy(0, 0);
    round(x, 0, 4, 1);
    round(x, 1, 4, 1);
    x.walk(1);
    round(x, 0, 4, 1);
    x.buy(0, 1);
    check.says("now, if all is BOUGHT");
    round(x, 0, 4);
    x.pause(16);
    round(x, 0, 20);
    round(x, 1, 20);
    check.says("from where one is now");
    x = Check.at(TWO);
    x.walk(1);
    round(x, 0, 8, 1, 0);
    check.says("the MINUTE in which the last one is bought (k NONE; now, if all is BOUGHT), the k-th STALL on it");
    x = Check.at("fair 20;coin a width 5 hole 0;");
    x.pause(3);
    round(x, 0, 3);
    check.due("blocked", x.blocked(0), 0);
  }

  private static void roundWaits() {
    check.says("there as soon as the COIN BUYS (waiting, if it does not yet)");
    round(Check.at(TWO + "cloud 0 to 11;"), 0, 16, 0, 1);
    ShadowCoins x = Check.at(TWO + "cloud 0 to 13;");
    round(x, 0, -1);
    x.walk(1);
    x.pause(10);
    round(x, 0, -1);
    x = Check.at("fair 20;stall s at 3 turn 0 price 13 shut 400;coin a width 3 hole 0;shade minute;");
    round(x, 0, 13, 0);
    x.pause(10);
    round(x, 0, 13, 0);
    x.pause(1);
    round(x, 0, 14, 0);
    // at once, in the minute that it is
    x = Check.at("fair 20;stall s at 0 turn 0 price 5 shut 1;coin a width 5 hole 0;");
    round(x, 0, 0, 0);
    x.pause(1);
    round(x, 0, -1);
    // in the fair's last minute
    x = Check.at("fair 20;stall s at 20 turn 0 price 5 shut 21;coin a width 5 hole 0;");
    round(x, 0, 20, 0);
    x.pause(1);
    round(x, 0, -1);
    x = Check.at("fair 400;stall s at 0 turn 0 price 399 shut 400;stall t at 0 turn 0 price 1 shut 400;coin a width 5 hole 0;"
        + "shade minute;");
    round(x, 0, 399, 0, 1);
    x.pause(399);
    round(x, 0, 399, 0, 1);
    x.pause(1);
    round(x, 0, -1);
  }

  private static void roundSoonest() {
    check.says("by which the last one is bought soonest");
    round(Check.at("fair 100;stall far at 20 turn 0 price 1 shut 400;stall near at 5 turn 0 price 1 shut 400;"
        + "stall mid at 10 turn 0 price 1 shut 400;coin a width 1 hole 0;"), 0, 20, 1, 2, 0);
    // past a stall that does not sell yet, and back
    round(Check.at("fair 100;stall near at 5 turn 0 price 1 shut 400;stall far at 20 turn 0 price 1 shut 21;"
        + "coin a width 1 hole 0;cloud 5 to 19;"), 0, 35, 1, 0);
    // one way is as long as the other but for a minute: 50 to 60 and back to 39 are 31, to 39 and 60 are 32
    ShadowCoins x = Check.at("fair 100;stall mid at 50 turn 0 price 1 shut 400;stall low at 39 turn 0 price 1 shut 400;"
        + "stall high at 60 turn 0 price 1 shut 400;coin a width 1 hole 0;");
    x.walk(0);
    round(x, 0, 50 + 31, 0, 2, 1);
  }

  private static void roundTies() {
    check.says("of like ones the first row");
    ShadowCoins x = Check.at("fair 100;stall mid at 50 turn 0 price 1 shut 400;stall high at 60 turn 0 price 1 shut 400;"
        + "stall low at 40 turn 0 price 1 shut 400;coin a width 1 hole 0;");
    x.walk(0);
    round(x, 0, 80, 0, 1, 2);
    x = Check.at("fair 100;stall high at 60 turn 0 price 1 shut 400;stall low at 40 turn 0 price 1 shut 400;"
        + "stall mid at 50 turn 0 price 1 shut 400;coin a width 1 hole 0;");
    x.walk(2);
    // all orders that end in 80: 0 2 1, 1 2 0, 2 0 1, 2 1 0
    round(x, 0, 80, 0, 2, 1);
    StringBuilder text = new StringBuilder("fair 100;coin a width 1 hole 0;");
    for (int k = 0; k < 6; k++) {
      text.append("stall s").append((char) ('a' + k)).append(" at 9 turn 0 price 1 shut 400;");
    }
    round(Check.at(text.toString()), 0, 9, 0, 1, 2, 3, 4, 5);
    // the last one sells late: all orders of the others are alike
    round(Check.at("fair 100;stall a at 7 turn 0 price 1 shut 400;stall b at 3 turn 0 price 1 shut 400;"
        + "stall c at 0 turn 0 price 60 shut 400;coin m width 50 hole 0;shade minute+1;"), 0, 59, 0, 1, 2);
  }

  private static void roundNone() {
    check.says("There is none, if by each order one of them comes too late");
    String both = "stall b at 10 turn 0 price 1 shut 31;coin one width 1 hole 0;";
    round(Check.at("fair 100;stall a at 20 turn 0 price 1 shut 21;" + both), 0, 20, 1, 0);
    round(Check.at("fair 100;stall a at 20 turn 0 price 1 shut 20;" + both), 0, -1);
    round(Check.at("fair 100;stall a at 20 turn 0 price 1 shut 21;" + both + "cloud 0 to 19;"), 0, 30, 0, 1);
    round(Check.at("fair 100;stall a at 20 turn 0 price 1 shut 21;" + both + "cloud 0 to 19;cloud 30 to 30;"), 0, -1);
    round(Check.at("fair 30;stall a at 20 turn 0 price 1 shut 21;" + both + "cloud 0 to 19;"), 0, 30, 0, 1);
    round(Check.at("fair 29;stall a at 20 turn 0 price 1 shut 21;" + both + "cloud 0 to 19;"), 0, -1);
  }

  private static void roundOfNone() {
    check.says("NONE when there is none, or none such");
    ShadowCoins x = Check.at(TWO);
    for (int none : NONE_OF_TWO) {
      check.due("round of coin " + none, x.round(none, -1), -1);
      check.due("round of coin " + none, x.round(none, 0), -1);
    }
    check.due("the second one does not buy at the first", x.round(1, -1), -1);
    check.due("the second one does not buy at the first", x.round(1, 0), -1);
  }

  private static void blockedFewest() {
    check.says("BLOCKED are the fewest STALLS to be left out, so that there is a ROUND of all others");
    ShadowCoins x = Check.at(TWO);
    check.due("none", x.blocked(0), 0);
    check.due("the first one", x.blocked(1), 1);
    x.pause(13);
    check.due("just both", x.blocked(0), 0);
    x.pause(1);
    check.due("the second one is too late", x.blocked(0), 2);
    x.pause(1);
    check.due("both are", x.blocked(0), 3);
    x = Check.at(TWO);
    x.pause(20);
    check.due("both in the last minute", x.blocked(0), 3);
    check.says("A ROUND with a COIN is an order of all STALLS whose ware is not BOUGHT");
    x = Check.at(TWO);
    x.buy(0, 0);
    check.due("what is bought is not left out", x.blocked(1), 0);
    x.pause(20);
    check.due("what is bought is not left out", x.blocked(1), 2);
    x = Check.at(TWO);
    x.buy(0, 0);
    x.walk(1);
    x.buy(0, 1);
    x.pause(16);
    check.due("all is bought", x.blocked(0), 0);
    // leaving one out is better than leaving two, whatever their bits are
    x = Check.at("fair 30;stall a at 9 turn 0 price 1 shut 10;stall b at 9 turn 0 price 1 shut 10;"
        + "stall c at 0 turn 0 price 1 shut 11;coin one width 1 hole 0;cloud 0 to 0;cloud 1 to 8;");
    check.due("the third one alone", x.blocked(0), 4);
  }

  private static void blockedTies() {
    check.says("of like ones the least bits");
    ShadowCoins x = Check.at("fair 30;stall a at 9 turn 0 price 1 shut 10;stall b at 0 turn 0 price 1 shut 10;"
        + "coin one width 1 hole 0;cloud 0 to 8;");
    check.due("either: the first one", x.blocked(0), 1);
    x = Check.at("fair 30;stall x at 0 turn 0 price 9 shut 30;stall a at 9 turn 0 price 1 shut 10;"
        + "stall b at 0 turn 0 price 1 shut 10;stall c at 5 turn 0 price 1 shut 10;coin one width 1 hole 0;cloud 0 to 8;");
    check.due("two of three, and the one that never sells", x.blocked(0), 1 + 2 + 4);
  }

  private static void blockedOfNone() {
    check.says("BLOCKED for a COIN, as bits; NONE when there is none such");
    ShadowCoins x = Check.at(TWO);
    for (int none : NONE_OF_TWO) {
      check.due("blocked of " + none, x.blocked(none), -1);
    }
    StringBuilder text = new StringBuilder("fair 100;coin a width 1 hole 0;");
    for (int k = 0; k < 6; k++) {
      text.append("stall s").append((char) ('a' + k)).append(" at 9 turn 0 price 2 shut 400;");
    }
    check.due("all six", Check.at(text.toString()).blocked(0), 63);
  }

  private static void strikeLongest() {
    check.says("A STRIKE for a COIN is the longest row of MINUTES, from now on to the fair's minutes, in which it BUYS at no STALL");
    ShadowCoins x = Check.at("fair 20;stall s at 5 turn 0 price 1 shut 400;coin c width 3 hole 0;cloud 3 to 5;cloud 9 to 12;"
        + "cloud 17 to 20;");
    check.due("how many", x.strike(0, 0), 4);
    check.due("the first", x.strike(0, 1), 9);
    x.pause(10);
    check.due("from 10 on", x.strike(0, 0), 4);
    check.due("from 10 on", x.strike(0, 1), 17);
    x.pause(8);
    check.due("from 18 on", x.strike(0, 0), 3);
    check.due("from 18 on", x.strike(0, 1), 18);
    x.pause(2);
    check.due("the last minute alone", x.strike(0, 0), 1);
    check.due("the last minute alone", x.strike(0, 1), 20);
    check.says("of like ones the first");
    x = Check.at("fair 20;stall s at 5 turn 0 price 1 shut 400;coin c width 3 hole 0;cloud 3 to 5;cloud 9 to 11;cloud 18 to 20;");
    check.due("how many", x.strike(0, 0), 3);
    check.due("the first", x.strike(0, 1), 3);
    x.pause(3);
    check.due("it begins now", x.strike(0, 1), 3);
    x.pause(1);
    check.due("one minute of it is gone", x.strike(0, 1), 9);
    check.says("how many MINUTES (what 0), the first (1; NONE without)");
    x = Check.at("fair 20;stall s at 5 turn 0 price 1 shut 21;coin c width 3 hole 0;");
    check.due("none", x.strike(0, 0), 0);
    check.due("none", x.strike(0, 1), -1);
    x.pause(20);
    check.due("none", x.strike(0, 0), 0);
    check.due("none", x.strike(0, 1), -1);
    check.says("in which it BUYS at no STALL");
    x = Check.at(TWO);
    check.due("both are shut from 18 on", x.strike(0, 0), 3);
    check.due("both are shut from 18 on", x.strike(0, 1), 18);
    x = Check.at("fair 20;coin c width 3 hole 0;");
    check.due("without a stall", x.strike(0, 0), 21);
    check.due("without a stall", x.strike(0, 1), 0);
  }

  private static void strikeOfNone() {
    check.says("NONE when there is none such, or for others");
    ShadowCoins x = Check.at(TWO);
    check.due("there is one", x.strike(1, 1), 18);
    for (int none : NONE_OF_TWO) {
      check.due("strike of coin " + none, x.strike(none, 0), -1);
      check.due("strike of coin " + none, x.strike(none, 1), -1);
      check.due("strike of what " + none, x.strike(0, none), -1);
    }
  }

  private static void handyMost() {
    check.says("HANDY in a MINUTE is the COIN that BUYS at most STALLS; of like ones the first");
    String stalls = "fair 20;stall s at 0 turn 0 price 5 shut 15;stall t at 4 turn 1 price 3 shut 18;";
    ShadowCoins x = Check.at(stalls + "coin b width 3 hole 0;coin n width 0 hole 0;coin a width 5 hole 0;coin c width 9 hole 0;");
    check.due("two stalls: the first of like ones", x.handy(0), 2);
    check.due("two stalls", x.handy(14), 2);
    check.due("one stall: the first of like ones", x.handy(15), 0);
    check.due("no stall: the first of all", x.handy(18), 0);
    check.due("in the last minute", x.handy(20), 0);
    x.pause(20);
    check.due("a minute that is gone", x.handy(0), 2);
    x = Check.at(stalls + "coin n width 0 hole 0;coin b width 3 hole 0;cloud 3 to 3;");
    check.due("one stall", x.handy(2), 1);
    check.due("in a cloud", x.handy(3), 0);
    check.due("one stall", x.handy(17), 1);
  }

  private static void handyOfNone() {
    check.says("NONE without COINS, or when there is none such");
    ShadowCoins x = Check.at(TWO);
    for (int minute : NO_MINUTES) {
      check.due("handy in " + minute, x.handy(minute), -1);
    }
    check.due("without coins", Check.at("fair 20;stall s at 0 turn 0 price 0 shut 20;").handy(0), -1);
    check.due("without stalls", Check.at("fair 20;coin a width 5 hole 0;").handy(0), 0);
  }

  private static void oddFirst() {
    check.says("ODD is the first MINUTE, now or later, in which a COIN BUYS at one STALL, and not at another one");
    ShadowCoins x = Check.at(TWO);
    check.due("the first one shuts at 15", x.odd(0, 1, 0), 15);
    check.due("never the other way", x.odd(0, 0, 1), -1);
    check.due("at once", x.odd(1, 1, 0), 0);
    x.pause(15);
    check.due("now", x.odd(0, 1, 0), 15);
    x.pause(2);
    check.due("now", x.odd(0, 1, 0), 17);
    x.pause(1);
    check.due("neither, now", x.odd(0, 1, 0), -1);
    x = Check.at("fair 20;stall s at 0 turn 0 price 20 shut 21;stall t at 0 turn 0 price 21 shut 21;coin a width 5 hole 0;"
        + "shade minute;");
    check.due("in the last minute", x.odd(0, 0, 1), 20);
    x = Check.at("fair 20;stall s at 0 turn 0 price 20 shut 21;stall t at 0 turn 0 price 21 shut 21;coin a width 5 hole 0;"
        + "shade minute;cloud 20 to 20;");
    check.due("never", x.odd(0, 0, 1), -1);
  }

  private static void oddOfNone() {
    check.says("NONE when never, there are none such, or they are one");
    ShadowCoins x = Check.at(TWO);
    check.due("they are one", x.odd(0, 0, 0), -1);
    check.due("they are one", x.odd(0, 1, 1), -1);
    for (int none : NONE_OF_TWO) {
      check.due("odd of coin " + none, x.odd(none, 1, 0), -1);
      check.due("odd at " + none, x.odd(0, none, 0), -1);
      check.due("odd not at " + none, x.odd(0, 1, none), -1);
      check.due("odd at " + none + " twice", x.odd(0, none, none), -1);
    }
  }

  private static void bridgeFewest() {
    check.says("SHADOWS of which together are as long as bridge tells, or longer: the fewest, of like ones the least bits");
    String head = "fair 20;stall s at 0 turn 0 price 0 shut 0;coin a width 5 hole 0;coin b width 3 hole 0;coin c width 8 hole 0;"
        + "coin d width 5 hole 0;cloud 4 to 4;bridge ";
    int[][] want = {{0, 0}, {1, 1}, {5, 1}, {6, 4}, {8, 4}, {9, 5}, {13, 5}, {14, 7}, {16, 7}, {17, 13}, {18, 13}, {19, 15}, {21, 15}};
    for (int[] w : want) {
      check.due("bridge " + w[0], Check.at(head + w[0] + ";").bridge(0, 20), w[1]);
    }
    check.says("NONE when all are not enough");
    check.due("bridge 22", Check.at(head + "22;").bridge(0, 20), -1);
    check.due("bridge 9999", Check.at(head + "9999;").bridge(0, 20), -1);
    check.due("in a cloud", Check.at(head + "1;").bridge(0, 4), -1);
    check.due("nothing to pay in a cloud", Check.at(head + "0;").bridge(0, 4), 0);
    check.due("no coins", Check.at("fair 20;stall s at 0 turn 0 price 0 shut 0;bridge 1;").bridge(0, 0), -1);
    check.due("no coins, nothing to pay", Check.at("fair 20;stall s at 0 turn 0 price 0 shut 0;").bridge(0, 0), 0);
    check.says("at a STALL, in a MINUTE");
    ShadowCoins x = Check.at(TWO + "shade width*turn+minute;bridge 9;");
    check.due("at the first one in 0", x.bridge(0, 0), -1);
    check.due("at the first one in 5", x.bridge(0, 5), 3);
    check.due("at the first one in 9", x.bridge(0, 9), 1);
    check.due("at the second one in 1", x.bridge(1, 1), 3);
    check.due("at the second one in 4", x.bridge(1, 4), 1);
    x.pause(20);
    check.due("in a minute that is gone", x.bridge(0, 5), 3);
  }

  private static void bridgeOfNone() {
    check.says("NONE when all are not enough, or there are none such");
    ShadowCoins x = Check.at(TWO);
    check.due("in the last minute", x.bridge(1, 20), 0);
    for (int none : NONE_OF_TWO) {
      check.due("bridge at " + none, x.bridge(none, 0), -1);
    }
    for (int minute : NO_MINUTES) {
      check.due("bridge in " + minute, x.bridge(0, minute), -1);
    }
  }

  private static void change(ShadowCoins x, int much, int first, int second) {
    check.due("the first of " + much, x.change(0, much, 0), first);
    check.due("the second of " + much, x.change(0, much, 1), second);
  }

  private static void changePairs() {
    check.says("two COINS, by which the SHADOW of the first one is just so much longer than that of the second one; the first pair");
    ShadowCoins x = Check.at("fair 20;stall s at 0 turn 0 price 0 shut 0;stall t at 0 turn 1 price 0 shut 0;"
        + "coin a width 5 hole 0;coin b width 3 hole 0;coin c width 8 hole 0;coin d width 5 hole 0;cloud 4 to 4;"
        + "shade width*(1-turn)+turn*min(minute,1)*width*width;");
    change(x, 0, 0, 3);
    change(x, 1, -1, -1);
    change(x, 2, 0, 1);
    change(x, 3, 2, 0);
    change(x, 5, 2, 1);
    change(x, 6, -1, -1);
    check.says("CHANGE at a STALL now");
    check.due("at the second one in 0", x.change(1, 0, 1), 1);
    check.due("at the second one in 0", x.change(1, 16, 0), -1);
    x.pause(1);
    check.due("at the second one in 1", x.change(1, 16, 0), 0);
    check.due("at the second one in 1", x.change(1, 55, 0), 2);
    x.pause(3);
    change(x, 0, 0, 1);
    change(x, 2, -1, -1);
    check.says("CHANGE at a STALL now are two COINS");
    change(Check.at("fair 20;stall s at 0 turn 0 price 0 shut 0;coin a width 5 hole 0;"), 0, -1, -1);
    change(Check.at("fair 20;stall s at 0 turn 0 price 0 shut 0;coin a width 5 hole 0;coin b width 0 hole 0;"), 0, -1, -1);
    change(Check.at("fair 20;stall s at 0 turn 0 price 0 shut 0;coin a width 5 hole 0;coin b width 0 hole 0;"), 5, 0, 1);
    change(Check.at("fair 20;stall s at 0 turn 0 price 0 shut 0;"), 0, -1, -1);
    check.says("CHANGE of so much (0 .. 999)");
    x = Check.at("fair 20;stall s at 0 turn 0 price 0 shut 0;coin n width 0 hole 0;coin a width 99 hole 0;coin b width 99 hole 9;"
        + "shade width*99-hole*1000;");
    change(x, 999, 1, 0);
    change(x, 998, -1, -1);
    change(x, 1000, -1, -1);
    change(x, -1, -1, -1);
    x = Check.at("fair 20;stall s at 0 turn 0 price 0 shut 0;coin a width 5 hole 0;coin b width 6 hole 0;");
    change(x, -1, -1, -1);
    change(x, 1, 1, 0);
    change(x, Integer.MAX_VALUE, -1, -1);
    change(x, Integer.MIN_VALUE, -1, -1);
  }

  private static void changeOfNone() {
    check.says("NONE when there are none such, or for others");
    ShadowCoins x = Check.at(TWO);
    change(x, 2, 0, 1);
    for (int none : NONE_OF_TWO) {
      check.due("change at " + none, x.change(none, 2, 0), -1);
      check.due("change at " + none, x.change(none, 2, 1), -1);
      check.due("change of what " + none, x.change(0, 2, none), -1);
    }
  }

  private static void chalked(ShadowCoins x, int length, int pairs, int minute, int coin) {
    check.due("how many " + length, x.chalked(0, length, 0), pairs);
    check.due("minute of " + length, x.chalked(0, length, 1), minute);
    check.due("coin of " + length, x.chalked(0, length, 2), coin);
  }

  private static void chalkedPairs() {
    check.says("how many pairs of a COIN and a MINUTE (0 and on, to the fair's minutes) have such a SHADOW there, the first one (MINUTE by MINUTE, then by COINS)");
    // the first one has 20 .. 0, the second one 0 .. 20, both 0 in the cloud
    ShadowCoins x = Check.at("fair 20;stall s at 0 turn 0 price 0 shut 0;coin a width 0 hole 0;coin b width 1 hole 0;"
        + "cloud 12 to 13;shade width*minute+(1-width)*(20-minute);");
    chalked(x, 20, 2, 0, 0);
    chalked(x, 19, 2, 1, 0);
    chalked(x, 10, 2, 10, 0);
    chalked(x, 0, 6, 0, 1);
    chalked(x, 13, 1, 7, 0);
    chalked(x, 8, 1, 8, 1);
    chalked(x, 21, 0, -1, -1);
    x.pause(20);
    chalked(x, 20, 2, 0, 0);
    check.says("MINUTE by MINUTE, then by COINS");
    x = Check.at("fair 20;stall s at 0 turn 0 price 0 shut 0;coin a width 9 hole 9;coin b width 7 hole 5;coin c width 7 hole 5;"
        + "shade width+min(minute,1)*(hole-width);");
    chalked(x, 9, 21, 0, 0);
    chalked(x, 7, 2, 0, 1);
    chalked(x, 5, 40, 1, 1);
    check.says("(0 and on, to the fair's minutes)");
    x = Check.at("fair 20;stall s at 0 turn 0 price 0 shut 0;coin a width 9 hole 9;shade minute;");
    chalked(x, 20, 1, 20, 0);
    check.says("CHALKED (0 .. 999)");
    x = Check.at("fair 20;stall s at 0 turn 0 price 0 shut 0;coin n width 0 hole 0;coin m width 99 hole 0;shade width*99;");
    chalked(x, 0, 21, 0, 0);
    chalked(x, 999, 21, 0, 1);
    chalked(x, 1000, -1, -1, -1);
    chalked(x, -1, -1, -1, -1);
    chalked(x, Integer.MAX_VALUE, -1, -1, -1);
    chalked(x, Integer.MIN_VALUE, -1, -1, -1);
    check.says("the first MINUTE, COIN (1, 2; NONE without)");
    chalked(Check.at("fair 20;stall s at 0 turn 0 price 0 shut 0;"), 0, 0, -1, -1);
  }

  private static void chalkedOfNone() {
    check.says("NONE when there is none such, or for others");
    ShadowCoins x = Check.at(TWO);
    for (int none : NONE_OF_TWO) {
      for (int what = 0; what < 3; what++) {
        check.due("chalked at " + none, x.chalked(none, 5, what), -1);
      }
    }
    for (int what : new int[] {-1, 3, Integer.MAX_VALUE, Integer.MIN_VALUE}) {
      check.due("chalked of what " + what, x.chalked(0, 5, what), -1);
    }
  }

  /** Each SHADOW of the largest fair is its own, from the first to the last of all. */
  private static void largestFair() {
    check.says("how long the SHADOW is");
    StringBuilder text = new StringBuilder("fair 400;shade minute*2+turn*10+width;");
    for (int k = 0; k < 6; k++) {
      text.append("stall s").append((char) ('a' + k)).append(" at 99 turn ").append(k).append(" price 850 shut 400;");
    }
    for (int k = 0; k < 8; k++) {
      text.append("coin c").append((char) ('a' + k)).append(" width ").append(k).append(" hole 0;");
    }
    int[] some = {0, 1, 398, 399, 400};
    for (int minute : some) {
      ShadowCoins x = Check.at(text.toString());
      for (int coin = 0; coin < 8; coin++) {
        for (int stall = 0; stall < 6; stall++) {
          check.due("shadow", x.shadow(coin, stall, minute), minute * 2 + stall * 10 + coin);
          check.due("buys", x.buys(coin, stall, minute), minute < 400 && minute * 2 + stall * 10 + coin >= 850 ? 1 : 0);
        }
      }
    }
    // all of one object, the last minute of one row ahead of the first one of the next
    ShadowCoins x = Check.at(text.toString());
    for (int coin = 0; coin < 8; coin++) {
      for (int stall = 0; stall < 6; stall++) {
        for (int minute : new int[] {400, 0, 399, 1}) {
          check.due("shadow", x.shadow(coin, stall, minute), minute * 2 + stall * 10 + coin);
        }
      }
    }
  }
}
