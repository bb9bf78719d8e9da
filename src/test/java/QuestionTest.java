/** Promise 31: ask. */
public final class QuestionTest {
  private static final Check check = new Check();
  private static final long NOTHING = -1000000000000000L;

  public static void main(String[] args) {
    answers();
    places();
    noCoins();
    faults();
    withoutFair();
    check.finish();
  }

  private static final String TEXT = "fair 30;stall a at 4 turn 1 price 12 shut 20;stall b at 0 turn 2 price 10 shut 20;"
      + "stall c at 4 turn 3 price 0 shut 20;coin p width 5 hole 2;coin q width 9 hole 1;coin r width 2 hole 3;"
      + "cloud 9 to 9;shade width*turn-hole+minute;";

  private static void answer(ShadowCoins x, String question, long want) {
    check.due(question, Check.ask(x, question), want);
    check.due("fault of " + question, x.fault(0), 0);
    check.due("place of " + question, x.fault(1), -1);
  }

  private static void answers() {
    ShadowCoins x = Check.at(TEXT);
    answer(x, "first all", 0);
    answer(x, "last all", 2);
    answer(x, "often all", 3);
    answer(x, "first width>5", 1);
    answer(x, "last width>3", 1);
    answer(x, "often hole<3", 2);
    answer(x, "first width>50", -1);
    answer(x, "last not all", -1);
    answer(x, "often not all", 0);
    answer(x, "total width", 16);
    answer(x, "most width", 9);
    answer(x, "least width", 2);
    answer(x, "most 0-width", -2);
    answer(x, "least 0-width", -9);
    answer(x, "total 0-1", -3);
    answer(x, "total number", 3);
    answer(x, "most number*number", 4);
    answer(x, "total minute", 0);
    answer(x, " \ntotal\n(1 ) ", 3);
    answer(x, "total 9999*9999", 3000000);
    answer(x, "least (0-9999)*9999", -1000000);
    answer(x, "total min(width,4)+max(hole,2)", 4 + 2 + 4 + 2 + 2 + 3);
    answer(x, "often [width=5 or width=9] and not hole=1", 1);
    answer(x, "total 7/0", 0);
    answer(x, "most (0-7)/2", -4);
  }

  private static void places() {
    ShadowCoins x = Check.at(TEXT);
    // at place 0 is stall 1: 5*2-2 = 8, 9*2-1 = 17, 2*2-3 = 1
    answer(x, "total here", 26);
    answer(x, "most here", 17);
    answer(x, "total shade 1", 26);
    answer(x, "total shade 0", 3 + 8 + 0);
    answer(x, "total shade 2", 13 + 26 + 3);
    answer(x, "total shade 3", 0);
    answer(x, "total shade (0-1)", 0);
    answer(x, "total shade number", 3 + 17 + 3);
    answer(x, "total shade 1+1", 29);
    answer(x, "total shade at 1", 3 + 17 + 0);
    answer(x, "often at 1=1", 1);
    answer(x, "first at 1=1", 1);
    answer(x, "total at 2", 3);
    answer(x, "total at 3", 0);
    answer(x, "total at (0-1)", 0);
    answer(x, "total at shade 0", 0);
    x.walk(0);
    // at place 4 is stall 0 first, in minute 4: 5-2+4 = 7, 9-1+4 = 12, 2-3+4 = 3
    answer(x, "total minute", 12);
    answer(x, "total here", 22);
    answer(x, "total at 0", 1);
    x.buy(1, 0);
    answer(x, "total at 0", 1);
    x.pause(5);
    answer(x, "total here", 0);
    answer(x, "total at 2", 0);
    x.pause(11);
    answer(x, "total at 2", 0);
    answer(x, "most shade 0", 28);
    // stalls of an earlier fair are no more
    Check.fair(x, "fair 30;stall a at 4 turn 1 price 0 shut 20;coin p width 5 hole 2;");
    answer(x, "total shade 1", 0);
    answer(x, "total at 1", 0);
    answer(x, "total shade 0", 5);
    ShadowCoins y = Check.at("fair 30;stall a at 4 turn 1 price 12 shut 20;coin p width 5 hole 2;coin q width 5 hole 2;");
    answer(y, "total here", -2);
    answer(y, "least here", -1);
    answer(y, "first here=0-1", 0);
  }

  private static void noCoins() {
    ShadowCoins x = Check.at("fair 30;");
    answer(x, "first all", -1);
    answer(x, "last all", -1);
    answer(x, "often all", 0);
    answer(x, "total 5", 0);
    answer(x, "most 5", 0);
    answer(x, "least 5", 0);
  }

  private static void bad(String marked, int kind) {
    ShadowCoins x = Check.at(TEXT);
    String text = marked.replace("#", "");
    check.due(text, Check.ask(x, text), NOTHING);
    check.due("fault of " + text, x.fault(0), kind);
    check.due("place of " + text, x.fault(1), marked.indexOf('#'));
    check.due("the tape is gone", x.feed(0, 0, 0, 0, 0), 20);
    check.due("nothing is counted", x.status(1), 0);
  }

  private static void faults() {
    bad("#", 1);
    bad("  #", 1);
    bad("#fair 3", 1);
    bad("#shade 3", 1);
    bad("#firsts all", 1);
    bad("#5", 1);
    bad("first#", 1);
    bad("first #", 1);
    bad("first all #all", 1);
    bad("first all#;", 1);
    bad("first 1#", 1);
    bad("total #all", 1);
    bad("total 1#<2", 1);
    bad("total 1#)", 1);
    bad("total #turn", 1);
    bad("total #price", 1);
    bad("total #long", 1);
    bad("total #foo", 1);
    bad("total #first", 1);
    bad("total#5", 1);
    bad("total 5#width", 1);
    bad("total 1234#5", 1);
    bad("total shade#", 1);
    bad("total at #+", 1);
    bad("total shade#1", 1);
    bad("total min(1#", 1);
    bad("often (#", 1);
    bad("total ((((((#(1)))))))", 4);
    bad("total shade shade shade shade shade shade #shade 1", 4);
    bad("total at at at at at at #at 1", 4);
    bad("total shade shade shade shade shade shade #(1)", 4);
    bad("total (at (shade (min(1,#(", 4);
    bad("first not not not [at (1)=at (#shade (1", 4);
    bad("first not not not [at (1)=at shade #(1", 4);
    bad("first not not not not not not #at 1=1", 4);
    ShadowCoins x = Check.at(TEXT);
    // shade 9 is 0; shade 0 is 3, 8, 0; shade 3 and 8 are 0 again
    answer(x, "total shade shade shade shade shade shade 9", 3 + 8 + 0);
    answer(x, "total at at at at at at 9+at at at at at at 9", 0);
    answer(x, "total at at 2", 1);
    answer(x, "often not not not not not at 1=1 and not not not not not not all", 2);
    // a fair's fault is forgotten with a good question, and the other way round
    Check.fair(x, "fair 5;");
    check.due("fair's fault", x.fault(0), 2);
    answer(x, "often all", 3);
    Check.ask(x, "x");
    check.due("question's fault", x.fault(0), 1);
    check.due("a fair", Check.fair(x, "fair 10;"), 1);
    check.due("no fault", x.fault(0), 0);
    check.due("no place", x.fault(1), -1);
  }

  private static void withoutFair() {
    ShadowCoins x = new ShadowCoins();
    check.due("without a fair", Check.ask(x, "total 1"), NOTHING);
    check.due("no fault", x.fault(0), 0);
    check.due("a wrong one without a fair", Check.ask(x, "total"), NOTHING);
    check.due("no fault", x.fault(0), 0);
    Check.fair(x, "fair 9;");
    check.due("without a fair", Check.ask(x, "total 1"), NOTHING);
    check.due("the fair's fault stays", x.fault(0), 2);
    check.due("its place stays", x.fault(1), 5);
  }
}
