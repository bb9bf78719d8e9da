/** Terms I and promises 1 to 9: each sentence that names an edge, as the document has it. */
public final class EdgesOfTextTest {
  private static final Check check = new Check();
  private static final String F = "fair 30;";
  private static final String COIN = "coin c width 7 hole 2;";
  private static final String STALL = "stall s at 0 turn 3 price 4 shut 30;";

  public static void main(String[] args) {
    statements();
    minutesOfFair();
    firstStatement();
    stallNumbers();
    coinNumbers();
    cloudNumbers();
    kinds();
    bridgeAndGust();
    lastCounts();
    parts();
    grammar();
    longestTexts();
    deepest();
    leftToRight();
    division();
    limits();
    without();
    names();
    blanks();
    faultAtByte();
    faultOfName();
    faultOfDigits();
    faultAtEnd();
    faultOfNumber();
    faultOfNameTwice();
    faultOfDepth();
    faultOfMany();
    firstFault();
    newObject();
    feeding();
    ending();
    tapeGoes();
    wrongFairStays();
    goodFairBegins();
    nothingOfAWrongFairStays();
    faultAnswers();
    hasAnswers();
    letters();
    stallAnswers();
    coinAnswers();
    check.finish();
  }

  private static void statements() {
    check.says("A FAIR is a text: { STATEMENT ; } (80 at most)");
    check.goodFair(F + "gust 1;".repeat(78), 79);
    check.goodFair(F + "gust 1;".repeat(79), 80);
    check.badFair(F + "gust 1;".repeat(79) + "#gust 1;", 5);
  }

  private static void minutesOfFair() {
    check.says("fair N (10 .. 400 minutes");
    check.badFair("fair #0;", 2);
    check.badFair("fair #9;", 2);
    check.due("fair 10", check.goodFair("fair 10;", 1).has(0), 10);
    check.due("fair 400", check.goodFair("fair 400;", 1).has(0), 400);
    check.badFair("fair #401;", 2);
    check.badFair("fair #9999;", 2);
  }

  private static void firstStatement() {
    check.says("the first STATEMENT, and it alone");
    check.badFair("#" + COIN + F, 1);
    check.badFair("#gust 5;" + F, 1);
    check.badFair("#shade 1;" + F, 1);
    check.badFair(F + "#" + F, 1);
    check.badFair(F + COIN + "#" + F, 1);
  }

  /** A statement with the mark N for its number, which goes from 0 to a greatest one. */
  private static void zeroTo(String statement, int greatest) {
    int at = statement.indexOf('N');
    String ahead = F + statement.substring(0, at);
    String behind = statement.substring(at + 1);
    check.goodFair(ahead + 0 + behind, 2);
    check.goodFair(ahead + greatest + behind, 2);
    check.badFair(ahead + "#" + (greatest + 1) + behind, 2);
    check.badFair(ahead + "#9999" + behind, 2);
  }

  private static void stallNumbers() {
    check.says("a place 0 .. 99 in the row; 0 .. 9; 0 .. 999; a minute 0 .. 400");
    zeroTo("stall s at N turn 1 price 1 shut 1;", 99);
    zeroTo("stall s at 1 turn N price 1 shut 1;", 9);
    zeroTo("stall s at 1 turn 1 price N shut 1;", 999);
    zeroTo("stall s at 1 turn 1 price 1 shut N;", 400);
  }

  private static void coinNumbers() {
    check.says("coin NAME width N hole N (0 .. 99; 0 .. 9");
    zeroTo("coin c width N hole 1;", 99);
    zeroTo("coin c width 1 hole N;", 9);
  }

  private static void cloudNumbers() {
    check.says("cloud N to N (minutes 0 .. 400, the second no less");
    zeroTo("cloud 0 to N;", 400);
    check.goodFair(F + "cloud 400 to 400;", 2);
    check.badFair(F + "cloud #401 to 401;", 2);
    check.goodFair(F + "cloud 7 to 7;", 2);
    check.goodFair(F + "cloud 7 to 8;", 2);
    check.badFair(F + "cloud 7 to #6;", 2);
    check.badFair(F + "cloud 400 to #0;", 2);
    check.goodFair(F + "cloud 31 to 400;", 2);
  }

  private static String stalls(int n) {
    StringBuilder all = new StringBuilder();
    for (int k = 0; k < n; k++) {
      all.append("stall s").append((char) ('a' + k)).append(" at 1 turn 1 price 1 shut 1;");
    }
    return all.toString();
  }

  private static String coins(int n) {
    StringBuilder all = new StringBuilder();
    for (int k = 0; k < n; k++) {
      all.append("coin c").append((char) ('a' + k)).append(" width 1 hole 1;");
    }
    return all.toString();
  }

  private static void kinds() {
    check.says("6 STALLS");
    check.due("six", check.goodFair(F + stalls(6), 7).has(1), 6);
    check.badFair(F + stalls(6) + "#stall x at 1 turn 1 price 1 shut 1;", 5);
    check.says("8 COINS");
    check.due("eight", check.goodFair(F + coins(8), 9).has(2), 8);
    check.badFair(F + coins(8) + "#coin x width 1 hole 1;", 5);
    check.says("8 CLOUDS");
    check.due("eight", check.goodFair(F + "cloud 1 to 1;".repeat(8), 9).has(3), 8);
    check.badFair(F + "cloud 1 to 1;".repeat(8) + "#cloud 1 to 1;", 5);
    check.says("shade SUM, refuse TEST (one each)");
    check.goodFair(F + "refuse all;shade 1;", 3);
    check.badFair(F + "shade 1;refuse all;#shade 1;", 5);
    check.badFair(F + "shade 1;refuse all;#refuse all;", 5);
    check.says("8 CLOUDS");
    ShadowCoins x = check.goodFair(F + stalls(6) + coins(8) + "cloud 1 to 1;".repeat(8) + "shade 1;refuse all;", 25);
    check.due("stalls", x.has(1), 6);
    check.due("coins", x.has(2), 8);
    check.due("clouds", x.has(3), 8);
  }

  private static void bridgeAndGust() {
    check.says("bridge N (0 .. 9999)");
    check.goodFair(F + "bridge 0;", 2);
    check.goodFair(F + "bridge 9999;", 2);
    check.badFair(F + "bridge 1000#0;", 1);
    check.says("gust N (0 .. 100)");
    zeroTo("gust N;", 100);
  }

  private static void lastCounts() {
    check.says("the last one of each counts (0, 0 without)");
    String head = "fair 30;stall s at 0 turn 0 price 0 shut 0;coin a width 5 hole 0;coin b width 6 hole 0;";
    check.due("the last is 0", Check.at(head + "bridge 6;bridge 0;").bridge(0, 0), 0);
    check.due("the last is 6", Check.at(head + "bridge 0;bridge 6;").bridge(0, 0), 2);
    check.due("no bridge", Check.at(head).bridge(0, 0), 0);
    check.due("the last is 0", Check.at(head + "gust 100;gust 0;").chance(10), 0);
    check.due("the last is 100", Check.at(head + "gust 0;gust 100;").chance(10), 10);
    check.due("no gust", Check.at(head).chance(30), 0);
  }

  /** A PART is one of shade alone, of refuse alone, of both. */
  private static void parts() {
    check.says("PART: N (1 to 4 digits)");
    check.goodFair(F + "shade 0;", 2);
    check.goodFair(F + "shade 0000+9999;", 2);
    check.badFair(F + "shade 0000#0;", 1);
    check.badFair(F + "refuse 1<9999#9;", 1);
    check.says("width; hole; turn; minute");
    check.goodFair(F + "shade width+hole+turn+minute;refuse width+hole<turn+minute;", 3);
    check.says("in refuse: long; price");
    check.goodFair(F + "refuse long<price;", 2);
    check.badFair(F + "shade #long;", 1);
    check.badFair(F + "shade 1+#price;", 1);
    check.badFair(F + "refuse #here<1;", 1);
    check.badFair(F + "refuse #number<1;", 1);
    check.badFair(F + "refuse #shade 1<1;", 1);
    check.badFair(F + "shade #at 1;", 1);
    check.says("min ( SUM , SUM ) ; max ( SUM , SUM )");
    shade("min(3,4)*100+max(3,4)*10+min(5,5)", 345);
    shade("max(4,3)*100+min(4,3)*10+max(5,5)", 435);
    shade("min(0-9,1+1)+10", 1);
    check.says("SIGN < or > or =");
    refuse("5<6", true);
    refuse("6<6", false);
    refuse("7<6", false);
    refuse("7>6", true);
    refuse("6>6", false);
    refuse("5>6", false);
    refuse("6=6", true);
    refuse("5=6", false);
    refuse("7=6", false);
    refuse("not 5<6", false);
    refuse("not 7>6", false);
    refuse("not 6=6", false);
    check.says("TEST: BOTH { or BOTH }. BOTH: FACT { and FACT }");
    refuse("1=2 or 1=2 or 1=1", true);
    refuse("1=2 or 1=2 or 1=2", false);
    refuse("1=1 and 1=1 and 1=1", true);
    refuse("1=1 and 1=1 and 1=2", false);
    refuse("1=1 or 1=1 and 1=2", true);
    refuse("[1=1 or 1=1] and 1=2", false);
    refuse("all", true);
  }

  private static void grammar() {
    check.says("FACT: not FACT; [ TEST ] ; all; SUM SIGN SUM");
    check.badFair(F + "refuse #;", 1);
    check.badFair(F + "refuse 1#;", 1);
    check.badFair(F + "refuse 1 #2<3;", 1);
    check.badFair(F + "refuse 1#,2;", 1);
    check.badFair(F + "refuse 1<#;", 1);
    check.badFair(F + "refuse 1<2#<3;", 1);
    check.badFair(F + "refuse 1<#>2;", 1);
    check.badFair(F + "refuse 1<#all;", 1);
    check.badFair(F + "refuse all#<1;", 1);
    check.badFair(F + "refuse not #;", 1);
    check.badFair(F + "refuse [#];", 1);
    check.badFair(F + "refuse [all#;", 1);
    check.badFair(F + "refuse [all#);", 1);
    check.badFair(F + "refuse all#];", 1);
    check.badFair(F + "refuse (1#<2);", 1);
    check.badFair(F + "refuse all and#;", 1);
    check.badFair(F + "refuse #or all;", 1);
    check.says("SUM: PRODUCT { + or - PRODUCT }. PRODUCT: PART { * or / PART }");
    check.badFair(F + "shade #;", 1);
    check.badFair(F + "shade #-1;", 1);
    check.badFair(F + "shade 1+#;", 1);
    check.badFair(F + "shade 1*#/2;", 1);
    check.badFair(F + "shade 1 #2;", 1);
    check.badFair(F + "shade (#);", 1);
    check.badFair(F + "shade (1#;", 1);
    check.badFair(F + "shade (1#];", 1);
    check.badFair(F + "shade 1#);", 1);
    check.badFair(F + "shade #[1];", 1);
    check.badFair(F + "shade 1#<2;", 1);
    check.badFair(F + "shade min#;", 1);
    check.badFair(F + "shade max#+1;", 1);
    check.badFair(F + "shade min(#);", 1);
    check.badFair(F + "shade min(1#);", 1);
    check.badFair(F + "shade min(1,#);", 1);
    check.badFair(F + "shade min(1,2#,3);", 1);
    check.badFair(F + "shade min#[1,2];", 1);
  }

  /** As much as the tape holds: none of it is left out. */
  private static void longestTexts() {
    check.says("NONE, refused (0), if there would be more than 1600");
    String head = "fair 30;" + STALL + COIN + "shade ";
    int room = 1600 - head.length() - 2;
    check.due("the longest sum", Check.at(head + "1+".repeat(room / 2) + "1;").shadow(0, 0, 0), room / 2 + 1);
    check.due("the longest difference", Check.at(head + "9-".repeat(room / 2) + "1;").shadow(0, 0, 0), 0);
    check.due("the longest product", Check.at(head + "1*".repeat(room / 2) + "7;").shadow(0, 0, 0), 7);
    check.due("the longest division", Check.at(head + "8/" + "1/".repeat(room / 2 - 1) + "1;").shadow(0, 0, 0), 8);
    head = "fair 30;" + STALL + COIN + "refuse ";
    int tests = (1600 - head.length() - 5) / 7;
    check.due("the longest or", Check.at(head + "1=2 or ".repeat(tests) + "1=1;").buys(0, 0, 0), 0);
    check.due("the longest or", Check.at(head + "1=2 or ".repeat(tests) + "1=2;").buys(0, 0, 0), 1);
    tests = (1600 - head.length() - 5) / 8;
    check.due("the longest and", Check.at(head + "1=1 and ".repeat(tests) + "1=1;").buys(0, 0, 0), 0);
    check.due("the longest and", Check.at(head + "1=1 and ".repeat(tests) + "1=2;").buys(0, 0, 0), 1);
    ShadowCoins x = Check.at(F + COIN);
    check.answer(x, "total " + "1+".repeat(796) + "10", 806);
    check.answer(x, "often " + "all and ".repeat(198) + "all", 1);
  }

  /** All that can wait at once: the left of or, of and, of a SIGN, of + and * ahead of each of six brackets. */
  private static void deepest() {
    check.says("4 the 7th of ( [ not that is open at once");
    String sum = "1+1*max(1,".repeat(6) + "2" + ")".repeat(6);
    refuse("1=2 or 1=1 and " + sum + "=8", true);
    refuse("1=2 or 1=1 and " + sum + "=7", false);
    refuse("1=2 or 1=1 and 8=" + sum, true);
    refuse("1=2 or 1=1 and 7=" + sum, false);
    shade(sum, 8);
    String tests = "1=2 or 1=1 and [".repeat(6) + "1=2 or 1=1 and 2=1+1*1" + "]".repeat(6);
    refuse(tests, true);
    refuse(tests.replace("2=1+1*1", "2=1+1*2"), false);
    refuse("1=2 or 1=1 and [".repeat(3) + "1=2 or 1=1 and 4=" + "1+1*min(9,".repeat(3) + "1" + ")".repeat(3) + "]".repeat(3), true);
    ShadowCoins x = Check.at(F + COIN);
    check.answer(x, "total " + sum, 8);
    check.answer(x, "often 1=2 or 1=1 and 8=" + sum, 1);
    check.answer(x, "total " + "1+1*shade ".repeat(6) + "2", 1);
  }

  /** The shadow by a shade, of a coin of width 7 and hole 2, at a stall of turn 3, in minute 5. */
  private static void shade(String sum, int want) {
    check.due("shade " + sum, Check.at(F + STALL + COIN + "shade " + sum + ";").shadow(0, 0, 5), want);
  }

  /** Whether a refuse holds there. */
  private static void refuse(String test, boolean holds) {
    check.due("refuse " + test, Check.at(F + STALL + COIN + "refuse " + test + ";").buys(0, 0, 5), holds ? 0 : 1);
  }

  private static void leftToRight() {
    check.says("All from the left on");
    shade("100-30-20", 50);
    shade("100-30+20", 90);
    shade("100/5*2", 40);
    shade("7*3/2", 10);
    shade("3/2*7", 7);
    shade("100/10/5", 2);
    shade("2+3*4", 14);
    shade("100-2*3-4", 90);
  }

  private static void division() {
    check.says("/ gives the greatest whole number not above, by 0 it gives 0");
    shade("7/2", 3);
    shade("8/2", 4);
    shade("100+(0-7)/2", 96);
    shade("100+7/(0-2)", 96);
    shade("100+(0-8)/2", 96);
    shade("100+(0-7)/(0-2)", 103);
    shade("100+(0-1)/9999", 99);
    shade("1/2", 0);
    shade("0/5", 0);
    shade("7/0", 0);
    shade("(0-7)/0+5", 5);
    shade("0/0+6", 6);
    shade("width/(minute-5)", 0);
  }

  private static void limits() {
    check.says("each sum, difference, product above 10 to the 6 is that, below -10 to the 6 likewise");
    ShadowCoins x = Check.at(F + COIN);
    check.answer(x, "most 9999*100+99", 999999);
    check.answer(x, "most 9999*100+100", 1000000);
    check.answer(x, "most 9999*100+101", 1000000);
    check.answer(x, "most 9999*100-(0-101)", 1000000);
    check.answer(x, "most 1000*1000", 1000000);
    check.answer(x, "most 1000*1001", 1000000);
    check.answer(x, "most 9999*9999*9999", 1000000);
    check.answer(x, "most 0-9999*100-99", -999999);
    check.answer(x, "most 0-9999*100-100", -1000000);
    check.answer(x, "most 0-9999*100-101", -1000000);
    check.answer(x, "most (0-9999)*100+(0-101)", -1000000);
    check.answer(x, "most (0-1000)*1000", -1000000);
    check.answer(x, "most (0-1000)*1001", -1000000);
    check.answer(x, "most 1000*(0-9999)*9999", -1000000);
    // it is that at once, not at the end alone
    check.answer(x, "most 1000*1001-1", 999999);
    check.answer(x, "most (0-1000)*1001+1", -999999);
    check.answer(x, "most 9999*9999/9999", 100);
    check.answer(x, "most (9999*100+9999)/10", 100000);
    check.answer(x, "most (0-9999*9999)/(0-1)", 1000000);
    shade("1000*1001-9999*100", 100);
    refuse("1000*1001=1000*1000", true);
  }

  private static void without() {
    check.says("Without: shade is width, refuse never");
    ShadowCoins x = Check.at(F + STALL + COIN + "coin n width 0 hole 9;coin m width 99 hole 0;");
    int[] widths = {7, 0, 99};
    for (int coin = 0; coin < 3; coin++) {
      check.due("shadow of " + coin, x.shadow(coin, 0, 0), widths[coin]);
      check.due("buys of " + coin, x.buys(coin, 0, 29), widths[coin] >= 4 ? 1 : 0);
    }
  }

  private static void names() {
    check.says("NAMES: 1 to 6 letters");
    check.goodFair(F + "coin a width 1 hole 1;", 2);
    check.goodFair(F + "coin abcdef width 1 hole 1;", 2);
    check.badFair(F + "coin abcdef#g width 1 hole 1;", 1);
    check.badFair(F + "coin #1 width 1 hole 1;", 1);
    check.says("no OWN WORD");
    String[] own = ("fair stall at turn price shut coin width hole cloud to shade refuse bridge gust long minute "
        + "number here or and not all min max").split(" ");
    for (String word : own) {
      check.badFair(F + "coin #" + word + " width 1 hole 1;", 1);
      check.badFair(F + "stall #" + word + " at 1 turn 1 price 1 shut 1;", 1);
    }
    for (String word : own) {
      String longer = word.length() < 6 ? word + "x" : "x" + word.substring(1);
      check.goodFair(F + "coin " + longer + " width 1 hole 1;", 2);
    }
    for (String word : "first last often total most least".split(" ")) {
      check.goodFair(F + "stall " + word + " at 1 turn 1 price 1 shut 1;", 2);
    }
    check.says("unlike ones (of all sorts)");
    check.badFair(F + STALL + "stall #s at 1 turn 1 price 1 shut 1;", 3);
    check.badFair(F + COIN + "coin #c width 1 hole 1;", 3);
    check.badFair(F + STALL + "coin #s width 1 hole 1;", 3);
    check.badFair(F + COIN + "stall #c at 1 turn 1 price 1 shut 1;", 3);
    check.goodFair(F + COIN + "coin cc width 1 hole 1;coin b width 1 hole 1;stall ccc at 1 turn 1 price 1 shut 1;", 5);
    check.goodFair(F + "coin abcdef width 1 hole 1;coin abcdeg width 1 hole 1;coin bbcdef width 1 hole 1;", 4);
    check.badFair(F + coins(8) + stalls(5) + "stall #ch at 1 turn 1 price 1 shut 1;", 3);
    check.badFair(F + stalls(6) + coins(7) + "coin #sf width 1 hole 1;", 3);
    check.goodFair(F + coins(8) + stalls(6), 15);
  }

  private static void blanks() {
    check.says("Blanks (10, 32) are where one likes");
    check.goodFair(" \n fair \n 30 \n ; \n ", 1);
    check.goodFair("fair\n30;coin\nc\nwidth\n7\nhole\n2;", 2);
    check.goodFair("fair 30 ; shade min ( 1 , ( 2 + 3 ) * 4 ) ; refuse [ 1 < 2 ] ;", 3);
    check.goodFair("fair 30;shade min(1,(2+3)*4);refuse[1<2];", 3);
    for (int octet : new int[] {0, 9, 11, 13, 31, 33, 127, 160, 255}) {
      check.badFair("fair 30#" + (char) octet + ";", 1);
      check.badFair("#" + (char) octet + F, 1);
    }
    check.says("words and numbers side by side need one");
    check.badFair("fair#30;", 1);
    check.badFair(F + "cloud 1#to 2;", 1);
    check.badFair(F + "cloud 1 to#2;", 1);
    check.badFair(F + "coin c#7", 1);
    check.badFair(F + "refuse 1<2#and 1<2;", 1);
    check.badFair(F + "#coinc width 1 hole 1;", 1);
    check.badFair("fair 30 #30;", 1);
  }

  private static void faultAtByte() {
    check.says("1 the first byte with which no such text goes on");
    check.badFair("#?", 1);
    check.badFair(F + "#?", 1);
    check.badFair(F + "shade 1#?2;", 1);
    check.badFair(F + "#;", 1);
    // the neighbours of letters and digits
    check.badFair(F + "coin c#{ width 1 hole 1;", 1);
    check.badFair(F + "coin c#` width 1 hole 1;", 1);
    check.badFair(F + "coin c width 1#: hole 1;", 1);
    check.badFair(F + "coin c width 1#/ hole 1;", 1);
    check.badFair(F + "coin #{ width 1 hole 1;", 1);
    check.badFair(F + "coin c width #: hole 1;", 1);
    check.says("words and numbers whole, at their first byte");
    check.badFair("#fairy 30;", 1);
    check.badFair("#fai", 1);
    check.badFair(F + "coin c #widths 1 hole 1;", 1);
    check.badFair(F + "coin c #widt 1 hole 1;", 1);
    check.badFair(F + "coin c #hole 1 width 1;", 1);
    check.badFair(F + "coin c #12345 width 1;", 1);
    check.badFair(F + "#abcdefgh 1;", 1);
    check.badFair(F + "refuse #alls;", 1);
    check.badFair(F + "#first;", 1);
  }

  private static void faultOfName() {
    check.says("where a NAME is asked, an OWN WORD so, a 7th letter at itself");
    check.badFair(F + "coin #minute width 1 hole 1;", 1);
    check.badFair(F + "coin minute#s width 1 hole 1;", 1);
    check.badFair(F + "stall number#abcdefgh at 1", 1);
    check.badFair(F + "stall #at 1", 1);
    // a NAME that is too long is no NAME that is there already
    check.badFair(F + "coin abcdef width 1 hole 1;coin abcdef#a width 1 hole 1;", 1);
  }

  private static void faultOfDigits() {
    check.says("where a number is asked, a 5th digit at itself");
    check.badFair("fair 0003#0;", 1);
    check.badFair("fair 1234#56789;", 1);
    check.badFair(F + "stall s at 0000#1 turn", 1);
    check.badFair(F + "cloud 0001 to 0000#2;", 1);
    check.badFair(F + "gust 0001#0;", 1);
    check.badFair(F + "shade (1234#5);", 1);
  }

  private static void faultAtEnd() {
    check.says("at the text's length, if it ends too soon");
    String[] whole = {"fair", " 30", ";", "stall", " s", " at", " 1", " turn", " 1", " price", " 1", " shut", " 1", ";",
        "coin", " c", " width", " 1", " hole", " 1", ";", "cloud", " 1", " to", " 1", ";", "shade", " min", "(", "1", ",",
        "1", "+", "1", "*", "1", ")", ";", "refuse", "[", "not", " all", " or", " 1", "<", "1", "]", "and", " all", ";",
        "bridge", " 1", ";", "gust", " 1"};
    StringBuilder text = new StringBuilder();
    for (String piece : whole) {
      text.append(piece);
      if (!piece.equals(";")) {
        check.badFair(text + "#", 1);
        check.badFair(text + " \n#", 1);
      }
    }
    check.goodFair(text + ";", 8);
  }

  private static void faultOfNumber() {
    check.says("2 a number that can't be, at it");
    check.badFair("fair \n #401;", 2);
    check.badFair("fair #0401;", 2);
    check.badFair("fair #9", 2);
    check.badFair(F + "gust #101?", 2);
  }

  private static void faultOfNameTwice() {
    check.says("3 a NAME that is there already, at it");
    check.badFair(F + COIN + "coin  #c ?", 3);
    check.badFair(F + COIN + "coin #c", 3);
    check.badFair(F + coins(7) + "coin #ca width 100", 3);
    check.badFair(F + stalls(5) + "stall #se at 100", 3);
  }

  private static void faultOfDepth() {
    check.says("4 the 7th of ( [ not that is open at once (not until its FACT ends), at it");
    check.goodFair(F + "shade ((((((1))))));", 2);
    check.badFair(F + "shade ((((((#(1)))))));", 4);
    check.goodFair(F + "refuse [[[[[[all]]]]]];", 2);
    check.badFair(F + "refuse [[[[[[#[all]]]]]]];", 4);
    check.goodFair(F + "refuse not not not not not not all;", 2);
    check.badFair(F + "refuse not not not not not not #not all;", 4);
    check.goodFair(F + "refuse [not [not [(1)<1]]];", 2);
    check.goodFair(F + "refuse [not [not [(1)<(1)]]] or [not [not [(1)<(1)]]];", 2);
    check.badFair(F + "refuse [not [not [(#(1))<1]]];", 4);
    check.badFair(F + "refuse [not [not [not #[1<1]]]];", 4);
    check.badFair(F + "refuse not [not [not [#not 1<1]]];", 4);
    // what is closed counts no more
    check.goodFair(F + "shade (1)+(1)+(1)+(1)+(1)+(1)+(1)+(1);", 2);
    check.goodFair(F + "shade min(1,1)+min(1,1)+max(1,1)+min(1,1)+min(1,1)+min(1,1)+max(1,1);", 2);
    check.goodFair(F + "refuse [all] or [all] or [all] or [all] or [all] or [all] or [all];", 2);
    check.goodFair(F + "refuse not all or not all or not all or not all or not all or not all or not all;", 2);
    check.goodFair(F + "refuse not all and not all and not all and not all and not all and not all and not all;", 2);
    check.goodFair(F + "refuse [not not not not not all and not not not not not all];", 2);
    check.badFair(F + "refuse [not not not not not all and not not not not not #not all];", 4);
    // the SUMs of a not's FACT are in it to its end
    check.badFair(F + "refuse not not not not not (1)<(#(1));", 4);
    check.goodFair(F + "refuse not not not not not (1)<(1);", 2);
    check.goodFair(F + "shade ((((((1))))));refuse not not not not not not all;", 3);
  }

  private static void faultOfMany() {
    check.says("5 one too many of a kind (a second shade, refuse, too), an 81st STATEMENT (whatever stands there), at its first byte");
    check.badFair(F + stalls(6) + " \n #stall", 5);
    check.badFair(F + coins(8) + "#coin ?", 5);
    check.badFair(F + "cloud 1 to 1;".repeat(8) + "#cloud 999", 5);
    check.badFair(F + "shade 1;#shade", 5);
    check.badFair(F + "refuse all;#refuse ?", 5);
    for (String there : new String[] {"?", ";", "5", "fair 30;", "gust 1", "abcdefg", "12345", "A"}) {
      check.badFair(F + "gust 1;".repeat(79) + " #" + there, 5);
    }
    check.goodFair(F + "gust 1;".repeat(79) + " \n", 80);
  }

  private static void firstFault() {
    check.says("FAULTS, the first along the text");
    check.badFair("fair #9;coin fair width 1 hole 1;", 2);
    check.badFair(F + COIN + "coin #c width 100 hole 1;", 3);
    check.badFair(F + "coin #coin width 100 hole 1;", 1);
    check.badFair(F + "shade ((((((#((1;", 4);
    check.badFair(F + "shade 1;#shade ?;", 5);
    check.badFair(F + "gust #101;shade 1;shade 1;", 2);
    check.badFair("#coin c width 100 hole 1;", 1);
  }

  private static void newObject() {
    check.says("No fair, no coins");
    ShadowCoins x = new ShadowCoins();
    for (int what = 0; what <= 10; what++) {
      check.due("has(" + what + ")", x.has(what), 0);
    }
    check.due("coin", x.coin(0, 0), -1);
    check.due("stall", x.stall(0, 0), -1);
    check.due("minutes", x.minutes(0), -1);
    check.due("lamps", x.lamps(0), -1);
    check.due("shadow", x.shadow(0, 0, 0), -1);
    check.due("buys", x.buys(0, 0, 0), -1);
    check.due("kept", x.kept(0, 0), -1);
    check.due("when", x.when(0, 0, 0), -1);
    check.due("round", x.round(0, -1), -1);
    check.due("blocked", x.blocked(0), -1);
    check.due("strike", x.strike(0, 0), -1);
    check.due("handy", x.handy(0), -1);
    check.due("odd", x.odd(0, 0, 1), -1);
    check.due("bridge", x.bridge(0, 0), -1);
    check.due("change", x.change(0, 0, 0), -1);
    check.due("chalked", x.chalked(0, 0, 0), -1);
    check.due("octet", x.octet(0), -1);
    check.due("walk", x.walk(0), -1);
    check.due("pause", x.pause(1), false);
    check.due("buy", x.buy(0, 0), false);
    check.due("chance", x.chance(1), -1);
    check.due("undo", x.undo(), false);
    for (int what = 0; what < 6; what++) {
      check.due("status(" + what + ")", x.status(what), new int[] {0, 0, 2, 2, 1, 0}[what]);
    }
  }

  private static void feeding() {
    check.says("Twenty bytes come behind those on the tape, of each number the highest first: how many there are");
    ShadowCoins x = new ShadowCoins();
    check.due("feed", x.feed(0x66616972, 0x2033313b, 0x636f696e, 0x20632077, 0x69647468), 20);
    check.due("feed", x.feed(0x20372068, 0x6f6c6520, 0x323b2020, 0x20202020, 0x2020200a), 40);
    check.due("fair 31;coin c width 7 hole 2;", x.fair(), 2);
    check.due("31", x.has(0), 31);
    check.due("7", x.coin(0, 0), 7);
    check.says("NONE, refused (0), if there would be more than 1600");
    for (int k = 1; k <= 80; k++) {
      check.due("feed", x.feed(0, 0, 0, 0, 0), 20 * k);
    }
    check.due("more than 1600", x.feed(0, 0, 0, 0, 0), -1);
    check.due("refused", x.status(0), 1);
    check.due("1581", x.end(1581), true);
    check.due("1601", x.feed(0, 0, 0, 0, 0), -1);
    check.due("refused", x.status(0), 2);
    check.due("what is refused does not come", x.end(1582), false);
    check.due("1580", x.end(1580), true);
    check.due("just 1600", x.feed(0, 0, 0, 0, 0), 1600);
    check.due("refused", x.status(0), 3);
    // a whole tape is read to its last byte
    check.goodFair(F + " ".repeat(1592), 1);
    check.badFair(F + " ".repeat(1591) + "#x", 1);
  }

  private static void ending() {
    check.says("The tape has its first n bytes alone: true; false, refused (0), if it has not so many, or n is below 0");
    ShadowCoins x = new ShadowCoins();
    check.due("an empty one", x.end(0), true);
    check.due("not so many", x.end(1), false);
    check.due("refused", x.status(0), 1);
    x.feed(0x66616972, 0x2033303b, 0x3f3f3f3f, 0x3f3f3f3f, 0x3f3f3f3f);
    check.due("21", x.end(21), false);
    check.due("-1", x.end(-1), false);
    check.due("least", x.end(Integer.MIN_VALUE), false);
    check.due("greatest", x.end(Integer.MAX_VALUE), false);
    check.due("refused", x.status(0), 5);
    check.due("20", x.end(20), true);
    check.due("8", x.end(8), true);
    check.due("9 are no more", x.end(9), false);
    check.due("refused", x.status(0), 6);
    check.due("the first 8 alone", x.fair(), 1);
  }

  private static void tapeGoes() {
    check.says("The tape (it goes) is THE FAIR");
    ShadowCoins x = Check.at(F);
    check.due("gone behind a fair", x.end(1), false);
    Check.fair(x, "?");
    check.due("gone behind a FAULT", x.end(1), false);
  }

  private static void wrongFairStays() {
    check.says("NONE, refused (1), with a FAULT (all stays");
    ShadowCoins x = Check.at(F + STALL + "stall t at 3 turn 0 price 1 shut 30;" + COIN
        + "cloud 20 to 21;shade width+1;refuse minute=9;bridge 8;gust 100;");
    x.chance(2);
    x.walk(1);
    x.buy(0, 1);
    Check.see(x, 0, 0, 0, 8);
    x.image();
    String other = "fair 40;stall z at 9 turn 9 price 9 shut 9;coin y width 9 hole 9;coin x width 9 hole 9;cloud 0 to 40;"
        + "shade 1;refuse all;bridge 77;gust 0;";
    check.due("a FAULT at its end", Check.fair(x, other + "?"), -1);
    check.due("refused", x.status(1), 1);
    int[] has = {30, 2, 1, 3, 5, 3, 1, 0, 1, 1, 3};
    for (int what = 0; what < has.length; what++) {
      check.due("has(" + what + ")", x.has(what), has[what]);
    }
    check.due("name", x.letter(0, 0, 0), 's' - 'a' + 1);
    check.due("width", x.coin(0, 0), 7);
    check.due("shade", x.shadow(0, 0, 5), 8);
    check.due("refuse", x.buys(0, 0, 9), 0);
    check.due("refuse", x.buys(0, 0, 8), 1);
    check.due("bridge", x.bridge(0, 5), 1);
    check.due("kept", x.kept(0, 0), 5);
    check.due("image", x.octet(4), 2);
    check.due("gust", x.chance(1), 1);
    check.due("undo", x.undo(), true);
    check.due("undo", x.undo(), true);
    check.due("undo", x.undo(), true);
    check.due("undo", x.undo(), true);
    check.due("undo", x.undo(), false);
    check.says("one without a STATEMENT has FAULT 1 at its length");
    check.badFair("#", 1);
    check.badFair(" #", 1);
    check.badFair("\n \n#", 1);
    check.badFair(" ".repeat(1600) + "#", 1);
  }

  private static void goodFairBegins() {
    check.says("Without one all is as at first, nothing is KEPT, SEEN or can be undone; the seed stays");
    ShadowCoins x = Check.at(F + "stall t at 3 turn 0 price 1 shut 30;" + COIN + "gust 100;");
    x.walk(0);
    x.buy(0, 0);
    x.chance(2);
    Check.see(x, 0, 0, 0, 8);
    x.seed(99);
    check.due("the same fair", Check.fair(x, F + "stall t at 3 turn 0 price 1 shut 30;" + COIN + "gust 50;"), 4);
    int[] has = {30, 1, 1, 0, 0, 0, 0, 0, 0, 0, 0};
    for (int what = 0; what < has.length; what++) {
      check.due("has(" + what + ")", x.has(what), has[what]);
    }
    check.due("not bought", x.stall(0, 4), 0);
    check.due("nothing kept", x.kept(0, 0), -1);
    check.due("nothing seen", x.minutes(0), 31);
    check.due("no clouds", x.shadow(0, 0, 4), 7);
    check.due("nothing to undo", x.undo(), false);
    ShadowCoins y = Check.at(F + "stall t at 3 turn 0 price 1 shut 30;" + COIN + "gust 50;");
    y.seed(99);
    check.due("the seed", x.chance(20), y.chance(20));
    check.due("the seed", x.image(), y.image());
    for (int k = 0; k < y.image(); k++) {
      check.due("the seed, octet " + k, x.octet(k), y.octet(k));
    }
  }

  /** What a text with a FAULT told ahead of it is not in the next one. */
  private static void nothingOfAWrongFairStays() {
    check.says("with a FAULT (all stays");
    ShadowCoins x = new ShadowCoins();
    String full = "fair 300;" + stalls(6) + coins(8) + "cloud 1 to 1;".repeat(8) + "shade 1;refuse all;bridge 99;gust 100;";
    check.due("a FAULT", Check.fair(x, full + "?"), -1);
    check.due("a good one", Check.fair(x, F + STALL + COIN), 3);
    check.due("stalls", x.has(1), 1);
    check.due("coins", x.has(2), 1);
    check.due("clouds", x.has(3), 0);
    check.due("shade", x.shadow(0, 0, 1), 7);
    check.due("refuse", x.buys(0, 0, 1), 1);
    check.due("bridge", x.bridge(0, 0), 0);
    check.due("gust", x.chance(9), 0);
    // nor is what fairs ahead of it told: two of them, as one may be held where the last but one was
    check.due("a full one", Check.fair(x, full.replace("refuse all;", "").replace("shut 1;", "shut 300;")), 26);
    check.due("handy in it", x.handy(200), 0);
    check.due("strike in it", x.strike(7, 1), 1);
    check.due("a small one", Check.fair(x, F + COIN), 2);
    check.due("and again", Check.fair(x, F + "coin d width 5 hole 0;stall z at 1 turn 0 price 99 shut 30;"), 3);
    check.due("handy", x.handy(9), 0);
    check.due("strike", x.strike(0, 0), 31);
    check.due("name", x.letter(1, 0, 1), 0);
    check.due("blocked", x.blocked(0), 1);
    check.due("change", x.change(0, 0, 0), -1);
    check.due("chalked", x.chalked(0, 5, 0), 31);
    // brackets that a FAULT left open are open no more
    check.due("a FAULT", Check.fair(x, F + "shade ((((((("), -1);
    check.due("a good one", Check.fair(x, F + "shade ((((((1))))));refuse [[[[[[all]]]]]];"), 3);
    check.due("a FAULT", Check.fair(x, F + "shade min(min(min(1"), -1);
    check.answer(x, "total ((((((1))))))", 0);
  }

  private static void faultAnswers() {
    check.says("Of the latest fair() or ask(): its FAULT (what 0; 0 without, and ahead of any), its place (1; NONE without). NONE for another what");
    ShadowCoins x = new ShadowCoins();
    check.due("ahead of any", x.fault(0), 0);
    check.due("ahead of any, its place", x.fault(1), -1);
    Check.fair(x, "fair 9;");
    check.due("a fair's", x.fault(0), 2);
    check.due("a fair's, its place", x.fault(1), 5);
    check.due("another what", x.fault(2), -1);
    check.due("another what", x.fault(-1), -1);
    check.due("another what", x.fault(Integer.MAX_VALUE), -1);
    check.due("another what", x.fault(Integer.MIN_VALUE), -1);
    Check.fair(x, F);
    check.due("without", x.fault(0), 0);
    check.due("without, its place", x.fault(1), -1);
    Check.ask(x, "total ?");
    check.due("a question's", x.fault(0), 1);
    check.due("a question's, its place", x.fault(1), 6);
    check.due("see is none of them", Check.see(x, 1), -1);
    check.due("on is none of them", Check.on(x, 1), false);
    check.due("a question's still", x.fault(0), 1);
    check.due("a question's still, its place", x.fault(1), 6);
    Check.ask(x, "total 1");
    check.due("without", x.fault(0), 0);
    check.due("without, its place", x.fault(1), -1);
    Check.ask(x, "?");
    check.due("at place 0", x.fault(1), 0);
    check.due("another what", x.fault(2), -1);
  }

  private static void hasAnswers() {
    check.says("How many there are: 0 minutes of the fair, 1 STALLS, 2 COINS, 3 CLOUDS (told, and more), 4 MINUTE, 5 the place, 6 BOUGHT");
    ShadowCoins x = Check.at("fair 31;stall s at 3 turn 0 price 1 shut 31;stall t at 3 turn 0 price 1 shut 31;" + COIN
        + "coin d width 1 hole 1;coin e width 1 hole 1;cloud 20 to 22;cloud 6 to 6;gust 100;");
    x.walk(1);
    x.buy(2, 1);
    x.buy(0, 0);
    x.chance(2);
    Check.see(x, 0, 0, 0, 7, 1, 1, 0, 1, 1, 1, 0, 1);
    int[] has = {31, 2, 3, 4, 5, 3, 2, 0, 2, 3, 4};
    for (int what = 0; what < has.length; what++) {
      check.due("has(" + what + ")", x.has(what), has[what]);
    }
    check.says("7 whether this is a MINUTE of a CLOUD");
    x.pause(1);
    check.due("in one", x.has(7), 1);
    x.pause(1);
    check.due("behind it", x.has(7), 0);
    check.says("10 ACTS that can be undone");
    check.due("acts", x.has(10), 6);
    check.says("NONE for others");
    for (int what : new int[] {-1, 11, Integer.MAX_VALUE, Integer.MIN_VALUE}) {
      check.due("has(" + what + ")", x.has(what), -1);
    }
  }

  private static void letters() {
    check.says("Letter k (0 .. 5) of the NAME of a STALL (kind 0), a COIN (1): 1 .. 26; 0 behind it; NONE when there is none such");
    ShadowCoins x = Check.at(F + "stall az at 0 turn 0 price 0 shut 0;stall b at 0 turn 0 price 0 shut 0;"
        + "coin azyxwz width 0 hole 0;");
    int[][] names = {{1, 26, 0, 0, 0, 0}, {2, 0, 0, 0, 0, 0}, {1, 26, 25, 24, 23, 26}};
    for (int k = 0; k <= 5; k++) {
      check.due("az", x.letter(0, 0, k), names[0][k]);
      check.due("b", x.letter(0, 1, k), names[1][k]);
      check.due("azyxwz", x.letter(1, 0, k), names[2][k]);
    }
    int[][] none = {{0, 0, -1}, {0, 0, 6}, {1, 0, -1}, {1, 0, 6}, {0, -1, 0}, {0, 2, 0}, {1, -1, 0}, {1, 1, 0}, {-1, 0, 0},
        {2, 0, 0}, {0, 0, Integer.MAX_VALUE}, {0, Integer.MIN_VALUE, 0}, {Integer.MAX_VALUE, 0, 0}};
    for (int[] n : none) {
      check.due("letter " + n[0] + " " + n[1] + " " + n[2], x.letter(n[0], n[1], n[2]), -1);
    }
  }

  private static void stallAnswers() {
    check.says("Of a STALL: 0 place, 1 turn, 2 price, 3 shut, 4 whether its ware is BOUGHT. NONE when there is none such, or for others");
    ShadowCoins x = Check.at("fair 400;stall a at 0 turn 9 price 1 shut 400;stall b at 99 turn 0 price 999 shut 0;" + COIN);
    x.buy(0, 0);
    int[][] want = {{0, 9, 1, 400, 1}, {99, 0, 999, 0, 0}};
    for (int what = 0; what < 5; what++) {
      check.due("stall(0, " + what + ")", x.stall(0, what), want[0][what]);
      check.due("stall(1, " + what + ")", x.stall(1, what), want[1][what]);
      check.due("stall(2, " + what + ")", x.stall(2, what), -1);
      check.due("stall(-1, " + what + ")", x.stall(-1, what), -1);
    }
    for (int what : new int[] {-1, 5, Integer.MAX_VALUE, Integer.MIN_VALUE}) {
      check.due("stall(0, " + what + ")", x.stall(0, what), -1);
    }
  }

  private static void coinAnswers() {
    check.says("Of a COIN: 0 width, 1 hole. NONE when there is none such, or for others");
    ShadowCoins x = Check.at(F + "coin a width 99 hole 0;coin b width 0 hole 9;");
    check.due("coin(0, 0)", x.coin(0, 0), 99);
    check.due("coin(0, 1)", x.coin(0, 1), 0);
    check.due("coin(1, 0)", x.coin(1, 0), 0);
    check.due("coin(1, 1)", x.coin(1, 1), 9);
    for (int none : new int[] {-1, 2, Integer.MAX_VALUE, Integer.MIN_VALUE}) {
      check.due("coin(" + none + ", 0)", x.coin(none, 0), -1);
      check.due("coin(0, " + none + ")", x.coin(0, none), -1);
    }
  }
}
