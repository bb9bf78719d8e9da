/** Promises 4 to 9: fair, fault, has, letter, stall, coin. */
public final class FairTextTest {
  private static final Check check = new Check();
  private static final String F = "fair 30;";

  public static void main(String[] args) {
    words();
    numbers();
    names();
    blanks();
    counts();
    sums();
    tests();
    depths();
    staying();
    telling();
    check.finish();
  }

  /** A text with a fault of a kind at a place. */
  private static void bad(String text, int kind, int place) {
    ShadowCoins x = new ShadowCoins();
    check.due("fair " + text, Check.fair(x, text), -1);
    check.due("fault(0) of " + text, x.fault(0), kind);
    check.due("fault(1) of " + text, x.fault(1), place);
    check.due("fault(2)", x.fault(2), -1);
    check.due("fault(-1)", x.fault(-1), -1);
    check.due("status(1)", x.status(1), 1);
    check.due("has(0)", x.has(0), 0);
  }

  /** The fault stands at the mark # of the text, which is taken out. */
  private static void bad(String marked, int kind) {
    bad(marked.replace("#", ""), kind, marked.indexOf('#'));
  }

  private static ShadowCoins good(String text, int statements) {
    ShadowCoins x = new ShadowCoins();
    check.due("fair " + text, Check.fair(x, text), statements);
    check.due("fault(0) of " + text, x.fault(0), 0);
    check.due("fault(1) of " + text, x.fault(1), -1);
    check.due("status(1)", x.status(1), 0);
    return x;
  }

  private static void words() {
    bad("#", 1);
    bad("  \n #", 1);
    bad("#;", 1);
    bad("#stall s at 1", 1);
    bad("#fai", 1);
    bad("#fairs 30;", 1);
    bad("#Fair 30;", 1);
    bad("fair#", 1);
    bad("fair #;", 1);
    bad("fair #x", 1);
    bad("fair #-1;", 1);
    bad("fair 30#", 1);
    bad("fair 30 \n#", 1);
    bad("fair 30 #x", 1);
    bad("fair 30 #31;", 1);
    bad(F + "#;", 1);
    bad(F + "#fair 30;", 1);
    bad(F + "#at", 1);
    bad(F + "#long 3;", 1);
    bad(F + "#7", 1);
    bad(F + "#stalls", 1);
    bad(F + "#first", 1);
    bad(F + "stall#", 1);
    bad(F + "stall s #turn 1", 1);
    bad(F + "stall s at 1 #price 1", 1);
    bad(F + "stall s at 1 turn 1 price 1#;", 1);
    bad(F + "stall s at 1 turn 1 price 1 shut#", 1);
    bad(F + "coin c #hole 1 width 1;", 1);
    bad(F + "coin c width 1#;", 1);
    bad(F + "cloud 1 #2", 1);
    bad(F + "cloud 1 to#", 1);
    bad(F + "bridge #(", 1);
    bad(F + "gust #all", 1);
    bad(F + "gust 5 #" + (char) 233, 1);
    bad(F + "gust 5#\t;", 1);
  }

  private static void numbers() {
    good("fair 10;", 1);
    good("fair 400;", 1);
    good("fair 0010;", 1);
    bad("fair #9;", 2);
    bad("fair #401;", 2);
    bad("fair #0000;", 2);
    bad("fair 0001#0;", 1);
    bad("fair 9999#9;", 1);
    bad("fair 1234#567;", 1);
    bad(F + "stall s at #100", 2);
    bad(F + "stall s at 99 turn #10", 2);
    bad(F + "stall s at 99 turn 9 price #1000", 2);
    bad(F + "stall s at 99 turn 9 price 999 shut #401", 2);
    bad(F + "coin c width #100", 2);
    bad(F + "coin c width 99 hole #10", 2);
    bad(F + "cloud #401 to", 2);
    bad(F + "cloud 5 to #4;", 2);
    bad(F + "cloud 400 to #401;", 2);
    bad(F + "gust #101;", 2);
    bad(F + "bridge 1000#0;", 1);
    good(F + "cloud 400 to 400; cloud 0 to 0;", 3);
    good(F + "gust 100; gust 0; bridge 9999; bridge 0;", 5);
  }

  private static void names() {
    String s = F + "stall s at 1 turn 1 price 1 shut 1;";
    bad(F + "stall abcdef#g at 1", 1);
    bad(F + "stall abcdef#ghijkl", 1);
    bad(F + "stall #7", 1);
    bad(F + "stall #Abc", 1);
    bad(F + "stall a#B", 1);
    bad(F + "coin #width width 1 hole 1;", 1);
    bad(s + "stall #s", 3);
    bad(s + "coin #s width 1 hole 1;", 3);
    bad(s + "coin c width 1 hole 1; coin #c", 3);
    bad(s + "coin c width 1 hole 1; stall #c at 700", 3);
    bad(F + "coin abcdef width 1 hole 1; coin abcdef#g", 1);
    good(s + "coin ss width 1 hole 1; coin sss width 1 hole 1;", 4);
    String[] own = ("fair stall at turn price shut coin width hole cloud to shade refuse bridge gust long minute "
        + "number here or and not all min max").split(" ");
    for (String word : own) {
      bad(F + "coin #" + word + " width 1 hole 1;", 1);
      bad(F + "stall #" + word, 1);
    }
    for (String word : "first last often total most least fairs sta minut atx".split(" ")) {
      good(F + "coin " + word + " width 1 hole 1;", 2);
    }
  }

  private static void blanks() {
    good("\nfair\n10\n;\n", 1);
    good("fair 10;stall s at 1 turn 1 price 1 shut 1;shade(width);refuse[not(1)<2];", 4);
    good("fair 10;shade  min\n(\n1 , width ) ;", 2);
    bad("fair#30;", 1);
    bad(F + "coin c width#1 hole 1;", 1);
    bad(F + "coin c width 1#hole 1;", 1);
    bad(F + "cloud 1#to 2;", 1);
    bad(F + "refuse 1<2#or 1<2;", 1);
    bad(F + "refuse not#1<2;", 1);
    bad("#fa ir 10;", 1);
    bad("fair 11 #0;", 1);
    bad("fair #1 0;", 2);
    bad("fair 30#\t;", 1);
    bad("fair 30#\r\n;", 1);
  }

  private static String times(String text, int n) {
    return text.repeat(n);
  }

  private static String stalls(int n) {
    StringBuilder all = new StringBuilder();
    for (int k = 0; k < n; k++) {
      all.append("stall s").append((char) ('a' + k)).append(" at 1 turn 1 price 1 shut 1;");
    }
    return all.toString();
  }

  private static String coins(int n) {
    StringBuilder all = new StringBuilder();
    for (int k = 0; k < n; k++) {
      all.append("coin c").append((char) ('a' + k)).append(" width 1 hole 1;");
    }
    return all.toString();
  }

  private static void counts() {
    check.due("six stalls", good(F + stalls(6), 7).has(1), 6);
    check.due("eight coins", good(F + coins(8), 9).has(2), 8);
    check.due("eight clouds", good(F + times("cloud 1 to 2;", 8), 9).has(3), 8);
    bad(F + stalls(6) + "#stall", 5);
    bad(F + stalls(6) + "#stall sa at 1", 5);
    bad(F + coins(8) + " #coin ca", 5);
    bad(F + times("cloud 1 to 2;", 8) + "\n#cloud 401", 5);
    bad(F + "shade 1;#shade 1;", 5);
    bad(F + "refuse all;#refuse all;", 5);
    good(F + times("gust 1;", 79), 80);
    good(F + times("gust 1;", 79) + " \n ", 80);
    bad(F + times("gust 1;", 79) + " #gust 1;", 5);
    bad(F + times("gust 1;", 79) + "#?", 5);
    bad(F + times("gust 1;", 79) + "#;", 5);
    bad(F + times("gust 1;", 79) + "#fair", 5);
    bad(F + times("gust 1;", 78) + "gust #101;;", 2);
  }

  private static void sums() {
    good(F + "shade 1+2-3*4/5;", 2);
    good(F + "shade max(min(width,hole),turn*(minute));", 2);
    good(F + "shade 0000;", 2);
    bad(F + "shade#;", 1);
    bad(F + "shade #long;", 1);
    bad(F + "shade #price;", 1);
    bad(F + "shade #number;", 1);
    bad(F + "shade #here;", 1);
    bad(F + "shade #shade 1;", 1);
    bad(F + "shade #-1;", 1);
    bad(F + "shade 1+#;", 1);
    bad(F + "shade 1+#+1;", 1);
    bad(F + "shade 1 #1;", 1);
    bad(F + "shade (1#;", 1);
    bad(F + "shade 1#);", 1);
    bad(F + "shade (#);", 1);
    bad(F + "shade min#;", 1);
    bad(F + "shade min #1,2);", 1);
    bad(F + "shade min(1#);", 1);
    bad(F + "shade min(1,2#,3);", 1);
    bad(F + "shade max(1,#);", 1);
    bad(F + "shade 1#,2;", 1);
    bad(F + "shade 1#<2;", 1);
    bad(F + "shade #widths;", 1);
    bad(F + "shade 1*1234#5;", 1);
    bad(F + "shade 1#", 1);
  }

  private static void tests() {
    good(F + "refuse all;", 2);
    good(F + "refuse long>price and not width=hole or [turn<minute or all] and 1=1;", 2);
    bad(F + "refuse#;", 1);
    bad(F + "refuse 1#;", 1);
    bad(F + "refuse 1<#;", 1);
    bad(F + "refuse 1<2#<3;", 1);
    bad(F + "refuse 1<#=2;", 1);
    bad(F + "refuse (#[1<2]);", 1);
    bad(F + "refuse (1#<2);", 1);
    bad(F + "refuse [1<2#;", 1);
    bad(F + "refuse [1#];", 1);
    bad(F + "refuse all #all;", 1);
    bad(F + "refuse all or#;", 1);
    bad(F + "refuse all and #or all;", 1);
    bad(F + "refuse not#;", 1);
    bad(F + "refuse all#<1;", 1);
    bad(F + "refuse [all]#+1;", 1);
    bad(F + "refuse #number<1;", 1);
    bad(F + "refuse #at 0=1;", 1);
    bad(F + "refuse #notall;", 1);
  }

  private static void depths() {
    good(F + "shade ((((((1))))));", 2);
    bad(F + "shade ((((((#(1", 4);
    good(F + "shade min(min(min(min(min(min(1,2),2),2),2),2),2);", 2);
    bad(F + "shade min(min(min(min(min(min(1,min#(", 4);
    bad(F + "shade (((((min(1,#(", 4);
    bad(F + "shade ((((((min#(1,2", 4);
    bad(F + "shade ((((((min #1", 1);
    good(F + "shade ((((((1))))))+((((((1))))));", 2);
    good(F + "refuse [[[[[[all]]]]]] or [[[[[[all]]]]]];", 2);
    bad(F + "refuse [[[[[[#[all", 4);
    bad(F + "refuse [[[[[[#(1", 4);
    bad(F + "refuse [[[[[[#not", 4);
    good(F + "refuse not not not not not not all;", 2);
    bad(F + "refuse not not not not not not #not all;", 4);
    bad(F + "refuse not not not not not not #[all];", 4);
    bad(F + "refuse not not not not not not 1<#(2);", 4);
    good(F + "refuse not not not all and not not not not not not all;", 2);
    good(F + "refuse not not not not not (1)<(2) or not (1)<2;", 2);
    bad(F + "refuse not not not not not (1)<(#(2));", 4);
    good(F + "refuse [not not all and [[[[all]]]]];", 2);
  }

  private static void staying() {
    ShadowCoins x = Check.at(F + "stall s at 0 turn 0 price 1 shut 30;coin c width 5 hole 1;gust 100;");
    x.buy(0, 0);
    x.chance(3);
    x.seed(77);
    Check.see(x, 0, 0, 0, 5);
    check.due("a wrong fair", Check.fair(x, "fair 20;coin d width 9 hole 9;x"), -1);
    check.due("the tape is gone", x.feed(0, 0, 0, 0, 0), 20);
    check.due("the stalls stay", x.has(1), 1);
    check.due("the coin stays", x.coin(0, 0), 5);
    check.due("the name stays", x.letter(1, 0, 0), 3);
    check.due("the minutes stay", x.has(0), 30);
    check.due("the minute stays", x.has(4), 3);
    check.due("the clouds stay", x.has(3), 3);
    check.due("what is bought stays", x.has(6), 1);
    check.due("what is kept stays", x.has(8), 1);
    check.due("what is seen stays", x.has(9), 1);
    check.due("acts stay", x.has(10), 2);
    check.due("shadows stay", x.shadow(0, 0, 9), 5);
    x.image();
    check.due("a new fair", Check.fair(x, "fair 20;coin d width 9 hole 9;stall z at 0 turn 1 price 1 shut 1;"), 3);
    int[] want = {20, 1, 1, 0, 0, 0, 0, 0, 0, 0, 0};
    for (int what = 0; what < want.length; what++) {
      check.due("new has(" + what + ")", x.has(what), want[what]);
    }
    check.due("new shadow", x.shadow(0, 0, 9), 9);
    check.due("new name", x.letter(1, 0, 0), 4);
    check.due("undo", x.undo(), false);
    check.due("the bridge is 0 again", x.bridge(0, 0), 0);
    check.due("the latest image stays", x.octet(1), 3);
    check.due("status(1) stays", x.status(1), 1);
    // gust is 0 again, yet the seed 77 goes on: with gust 100 all clouds come, with 0 none
    check.due("chance", x.chance(5), 0);
  }

  private static void telling() {
    ShadowCoins x = Check.at("fair 123;stall abc at 7 turn 8 price 9 shut 10;stall z at 99 turn 9 price 999 shut 400;"
        + "coin penny width 99 hole 9;coin abcdef width 0 hole 0;cloud 0 to 1;bridge 5;bridge 0;");
    int[] want = {123, 2, 2, 1, 0, 0, 0, 1, 0, 0, 0};
    for (int what = 0; what < want.length; what++) {
      check.due("has(" + what + ")", x.has(what), want[what]);
    }
    check.due("has(11)", x.has(11), -1);
    check.due("has(-1)", x.has(-1), -1);
    check.due("the last bridge counts", x.bridge(0, 50), 0);
    int[] letters = {1, 2, 3, 0, 0, 0};
    int[] sixth = {1, 2, 3, 4, 5, 6};
    for (int k = 0; k < 6; k++) {
      check.due("letter(0,0," + k + ")", x.letter(0, 0, k), letters[k]);
      check.due("letter(1,1," + k + ")", x.letter(1, 1, k), sixth[k]);
    }
    check.due("z", x.letter(0, 1, 0), 26);
    int[][] none = {{0, 0, 6}, {0, 0, -1}, {0, 2, 0}, {1, 2, 0}, {0, -1, 0}, {1, -1, 0}, {2, 0, 0}, {-1, 0, 0}};
    for (int[] n : none) {
      check.due("letter none", x.letter(n[0], n[1], n[2]), -1);
    }
    int[][] stalls = {{7, 8, 9, 10, 0, -1}, {99, 9, 999, 400, 0, -1}};
    for (int what = 0; what < 6; what++) {
      check.due("stall(0," + what + ")", x.stall(0, what), stalls[0][what]);
      check.due("stall(1," + what + ")", x.stall(1, what), stalls[1][what]);
      check.due("stall(2," + what + ")", x.stall(2, what), -1);
      check.due("stall(-1," + what + ")", x.stall(-1, what), -1);
    }
    check.due("stall(0,-1)", x.stall(0, -1), -1);
    check.due("coin(0,0)", x.coin(0, 0), 99);
    check.due("coin(0,1)", x.coin(0, 1), 9);
    check.due("coin(1,0)", x.coin(1, 0), 0);
    check.due("coin(0,2)", x.coin(0, 2), -1);
    check.due("coin(0,-1)", x.coin(0, -1), -1);
    check.due("coin(2,0)", x.coin(2, 0), -1);
    check.due("coin(-1,0)", x.coin(-1, 0), -1);
  }
}
