/** Promises 14 and 15: round, blocked. */
public final class RoundTest {
  private static final Check check = new Check();

  public static void main(String[] args) {
    rounds();
    ties();
    blocked();
    afterBuying();
    check.finish();
  }

  private static void round(ShadowCoins x, int coin, int end, int... order) {
    check.due("round end", x.round(coin, -1), end);
    for (int k = 0; k < order.length; k++) {
      check.due("round " + k, x.round(coin, k), order[k]);
    }
    check.due("round behind", x.round(coin, order.length), -1);
    check.due("round -2", x.round(coin, -2), -1);
    check.due("round far", x.round(coin, Integer.MAX_VALUE), -1);
  }

  private static void rounds() {
    ShadowCoins x = Check.at("fair 100;stall far at 20 turn 0 price 1 shut 400;stall near at 5 turn 0 price 1 shut 400;"
        + "stall mid at 10 turn 0 price 1 shut 400;coin a width 1 hole 0;coin n width 0 hole 0;");
    round(x, 0, 20, 1, 2, 0);
    round(x, 1, -1);
    check.due("no such coin", x.round(2, -1), -1);
    check.due("no such coin", x.round(-1, -1), -1);
    // the near one shuts late, the far one soon: over and back
    x = Check.at("fair 100;stall near at 5 turn 0 price 1 shut 400;stall far at 20 turn 0 price 1 shut 21;"
        + "coin a width 1 hole 0;cloud 5 to 19;");
    round(x, 0, 35, 1, 0);
    // waiting for the cloud to go
    x = Check.at("fair 100;stall s at 5 turn 0 price 1 shut 400;coin a width 1 hole 0;cloud 3 to 40;");
    round(x, 0, 41, 0);
    // without stalls all is bought
    x = Check.at("fair 100;coin a width 1 hole 0;");
    x.pause(7);
    round(x, 0, 7);
    check.due("nothing is blocked", x.blocked(0), 0);
    // the last minute of the fair
    x = Check.at("fair 20;stall s at 20 turn 0 price 1 shut 400;coin a width 1 hole 0;");
    round(x, 0, 20, 0);
    x.pause(1);
    round(x, 0, -1);
  }

  private static void ties() {
    StringBuilder text = new StringBuilder("fair 100;coin a width 1 hole 0;");
    for (int k = 0; k < 6; k++) {
      text.append("stall s").append((char) ('a' + k)).append(" at 9 turn 0 price 1 shut 400;");
    }
    ShadowCoins x = Check.at(text.toString());
    round(x, 0, 9, 0, 1, 2, 3, 4, 5);
    check.due("none blocked", x.blocked(0), 0);
  }

  private static void blocked() {
    ShadowCoins x = Check.at("fair 30;stall a at 20 turn 0 price 1 shut 400;stall b at 20 turn 0 price 2 shut 400;"
        + "stall c at 1 turn 0 price 1 shut 2;stall d at 5 turn 0 price 1 shut 6;stall e at 9 turn 0 price 1 shut 8;"
        + "coin one width 1 hole 0;coin two width 2 hole 0;coin n width 0 hole 0;");
    check.due("blocked one", x.blocked(0), 2 + 16);
    check.due("blocked two", x.blocked(1), 16);
    check.due("blocked none", x.blocked(2), 31);
    check.due("no such coin", x.blocked(3), -1);
    check.due("no such coin", x.blocked(-1), -1);
    // one of two can be had: the one with the least bits is left out
    x = Check.at("fair 30;stall a at 3 turn 0 price 1 shut 400;stall p at 7 turn 0 price 1 shut 8;stall q at 13 turn 0 price 1 shut 10;"
        + "coin one width 1 hole 0;");
    check.due("q alone", x.blocked(0), 4);
    x = Check.at("fair 30;stall a at 0 turn 0 price 1 shut 400;stall p at 10 turn 0 price 1 shut 11;stall q at 5 turn 0 price 1 shut 6;"
        + "coin one width 1 hole 0;cloud 4 to 5;cloud 0 to 0;");
    check.due("q in the cloud", x.blocked(0), 4);
    x = Check.at("fair 30;stall p at 10 turn 0 price 1 shut 21;stall m at 20 turn 0 price 1 shut 21;"
        + "coin one width 1 hole 0;cloud 0 to 19;");
    check.due("either: the least bits", x.blocked(0), 1);
    check.due("no round of both", x.round(0, -1), -1);
  }

  private static void afterBuying() {
    ShadowCoins x = Check.at("fair 30;stall a at 0 turn 0 price 1 shut 400;stall b at 9 turn 0 price 1 shut 400;"
        + "stall c at 4 turn 0 price 1 shut 4;coin one width 1 hole 0;");
    check.due("c is out", x.blocked(0), 4);
    check.due("buy a", x.buy(0, 0), true);
    check.due("c is out still", x.blocked(0), 4);
    round(x, 0, -1);
    x = Check.at("fair 30;stall a at 0 turn 0 price 1 shut 400;stall b at 9 turn 0 price 1 shut 400;coin one width 1 hole 0;");
    x.buy(0, 0);
    round(x, 0, 9, 1);
    x.walk(1);
    x.buy(0, 1);
    round(x, 0, 9);
    check.due("all bought", x.blocked(0), 0);
    check.due("all bought, no such coin", x.round(1, -1), -1);
  }
}
