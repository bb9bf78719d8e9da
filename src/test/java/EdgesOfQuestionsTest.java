/** Terms IV and promises 31 to 34: each sentence that names an edge, as the document has it. */
public final class EdgesOfQuestionsTest {
  private static final Check check = new Check();
  /** In minute 0 the shadows of a, b, c are 5, 9, 2 at s, 10, 18, 4 at t, 0 at the second stall where s is. */
  private static final String THREE = "fair 300;stall s at 4 turn 1 price 5 shut 200;stall t at 0 turn 2 price 10 shut 200;"
      + "stall u at 4 turn 0 price 0 shut 200;coin a width 5 hole 2;coin b width 9 hole 1;coin c width 2 hole 3;"
      + "cloud 9 to 9;shade width*turn+minute;";

  public static void main(String[] args) {
    firstLastOften();
    totals();
    withoutCoins();
    numbersOfACoin();
    here();
    shadeOfPart();
    atOfPart();
    faultAtByte();
    faultBehindIt();
    faultOfParts();
    faultOfDepth();
    withoutAFair();
    withAFault();
    manyQuestions();
    images();
    imageBytes();
    octets();
    onAnswers();
    onMinute();
    onPlace();
    onStalls();
    onClouds();
    onLength();
    onEndByte();
    onWithoutAFair();
    onAndAway();
    check.finish();
  }

  private static void firstLastOften() {
    check.says("first TEST, last TEST (the first, the last COIN for which it holds), often TEST (for how many)");
    ShadowCoins x = Check.at(THREE);
    check.answer(x, "first all", 0);
    check.answer(x, "last all", 2);
    check.answer(x, "often all", 3);
    check.answer(x, "first width>5", 1);
    check.answer(x, "last width>2", 1);
    check.answer(x, "first width<9", 0);
    check.answer(x, "last width<9", 2);
    check.answer(x, "often width<9", 2);
    check.answer(x, "first hole=3", 2);
    check.answer(x, "last hole=2", 0);
    check.says("NONE of first, last, when its TEST holds for none");
    check.answer(x, "first width>9", -1);
    check.answer(x, "last width>9", -1);
    check.answer(x, "first not all", -1);
    check.answer(x, "last not all", -1);
    check.answer(x, "often not all", 0);
  }

  private static void totals() {
    check.says("total SUM (of all together), most SUM, least SUM (the greatest, the least of all");
    ShadowCoins x = Check.at(THREE);
    check.answer(x, "total width", 16);
    check.answer(x, "most width", 9);
    check.answer(x, "least width", 2);
    check.answer(x, "total 0-width", -16);
    check.answer(x, "most 0-width", -2);
    check.answer(x, "least 0-width", -9);
    check.answer(x, "most number", 2);
    check.answer(x, "least number", 0);
    check.answer(x, "most 0-number", 0);
    check.answer(x, "least 0-number", -2);
    check.answer(x, "most 1", 1);
    check.answer(x, "least 1", 1);
    check.answer(x, "total 0-1", -3);
    ShadowCoins one = Check.at("fair 20;coin a width 5 hole 2;");
    check.answer(one, "most width", 5);
    check.answer(one, "least width", 5);
    check.answer(one, "most 0-width", -5);
    check.answer(one, "least 0-width", -5);
    check.answer(one, "total 0-width", -5);
  }

  private static void withoutCoins() {
    check.says("0 without COINS");
    ShadowCoins x = Check.at("fair 20;stall s at 0 turn 0 price 0 shut 20;");
    check.answer(x, "total 5", 0);
    check.answer(x, "most 5", 0);
    check.answer(x, "most 0-5", 0);
    check.answer(x, "least 5", 0);
    check.answer(x, "least 0-5", 0);
    check.answer(x, "often all", 0);
    check.answer(x, "first all", -1);
    check.answer(x, "last all", -1);
  }

  private static void numbersOfACoin() {
    check.says("PART: N; number; width; hole; minute; here");
    StringBuilder text = new StringBuilder("fair 20;");
    for (int k = 0; k < 8; k++) {
      text.append("coin c").append((char) ('a' + k)).append(" width ").append(99 - k).append(" hole ").append(k).append(";");
    }
    ShadowCoins x = Check.at(text.toString());
    check.answer(x, "most number", 7);
    check.answer(x, "last number=7", 7);
    check.answer(x, "first number=7", 7);
    check.answer(x, "first hole=7", 7);
    check.answer(x, "first width=92", 7);
    check.answer(x, "often width+hole=99", 8);
    check.answer(x, "total 0", 0);
    check.answer(x, "total 9999", 79992);
    check.answer(x, "total minute", 0);
    x.pause(20);
    check.answer(x, "most minute", 20);
    check.answer(x, "total minute", 160);
  }

  private static void here() {
    check.says("its SHADOW now at the first STALL that is where one is, -1 if none is");
    ShadowCoins x = Check.at(THREE);
    check.answer(x, "total here", 10 + 18 + 4);
    x.walk(0);
    check.answer(x, "total here", 5 + 9 + 2 + 3 * 4);
    x.pause(5);
    check.answer(x, "total here", 0);
    x.pause(1);
    check.answer(x, "total here", 5 + 9 + 2 + 3 * 10);
    check.due("to where no stall is", Check.on(x, Check.sealed(0, 10, 5, 0, 0)), true);
    check.answer(x, "total here", -3);
    check.answer(x, "most here", -1);
    check.answer(x, "often here=0-1", 3);
    check.due("in a cloud where no stall is", Check.on(x, Check.sealed(0, 9, 5, 0, 0)), true);
    check.answer(x, "total here", -3);
    check.answer(Check.at("fair 20;coin a width 5 hole 2;"), "total here", -1);
    // bought or not, shut or not
    x = Check.at(THREE);
    x.pause(200);
    check.answer(x, "most here", 218);
  }

  private static void shadeOfPart() {
    check.says("its SHADOW now at the STALL of that number");
    ShadowCoins x = Check.at(THREE);
    check.answer(x, "total shade 0", 16);
    check.answer(x, "total shade 1", 32);
    check.answer(x, "total shade 2", 0);
    check.answer(x, "total shade 3", 0);
    check.answer(x, "total shade 6", 0);
    check.answer(x, "total shade 9999", 0);
    check.answer(x, "total shade (0-1)", 0);
    check.answer(x, "total shade (0-9999*9999)", 0);
    check.answer(x, "total shade number", 5 + 18);
    check.answer(x, "total shade (number-1)", 9 + 4);
    // it takes the PART that is next to it, not the SUM
    check.answer(x, "total shade 0+1", 16 + 3);
    check.answer(x, "total shade 0*2", 32);
    check.answer(x, "total shade (0+1)", 32);
    x.pause(1);
    check.answer(x, "total shade 2", 3);
    check.answer(x, "total shade 3", 0);
    x.pause(8);
    check.answer(x, "total shade 1", 0);
    x = Check.at("fair 20;coin a width 5 hole 2;");
    check.answer(x, "total shade 0", 0);
    check.answer(x, "total at 0", 0);
    // stalls of an earlier fair are no more
    x = Check.at(THREE);
    check.answer(x, "total shade 1", 32);
    Check.fair(x, "fair 20;stall s at 0 turn 0 price 0 shut 20;coin a width 5 hole 2;");
    check.answer(x, "total shade 1", 0);
    check.answer(x, "total at 1", 0);
  }

  private static void atOfPart() {
    check.says("1 if it BUYS there now, else 0: 0 of those that there are not");
    ShadowCoins x = Check.at(THREE);
    check.answer(x, "total at 0", 2);
    check.answer(x, "total at 1", 2);
    check.answer(x, "total at 2", 3);
    check.answer(x, "total at 3", 0);
    check.answer(x, "total at 6", 0);
    check.answer(x, "total at 9999", 0);
    check.answer(x, "total at (0-1)", 0);
    check.answer(x, "often at 0=1", 2);
    check.answer(x, "often at 0=0", 1);
    check.answer(x, "first at 0=0", 2);
    check.answer(x, "total at 2+1", 6);
    check.answer(x, "total at at 3", 2);
    check.answer(x, "total shade at 3", 16);
    check.answer(x, "total at shade 2", 2);
    // BOUGHT there or not
    x.buy(1, 1);
    check.answer(x, "total at 1", 2);
    x.pause(9);
    check.answer(x, "total at 2", 0);
    x.pause(190);
    check.answer(x, "total at 2", 3);
    x.pause(1);
    check.answer(x, "total at 2", 0);
  }

  private static void faultAtByte() {
    check.says("Its FAULTS: 1 as in I (an unknown word at its first byte");
    ShadowCoins x = Check.at(THREE);
    check.badQuestion(x, "#", 1);
    check.badQuestion(x, " \n#", 1);
    check.badQuestion(x, "#foo all", 1);
    check.badQuestion(x, "#firsts all", 1);
    check.badQuestion(x, "#firs", 1);
    check.badQuestion(x, "#fair 30;", 1);
    check.badQuestion(x, "#all", 1);
    check.badQuestion(x, "#7", 1);
    check.badQuestion(x, "#?", 1);
    check.badQuestion(x, "#Total 1", 1);
    check.badQuestion(x, "total #foo", 1);
    check.badQuestion(x, "total 1+#widths", 1);
    check.badQuestion(x, "total #abcdefghij", 1);
    check.badQuestion(x, "total #s", 1);
    check.badQuestion(x, "total #first", 1);
    check.says("at the text's length, if it ends too soon");
    for (String word : "first last often total most least".split(" ")) {
      check.badQuestion(x, word + "#", 1);
      check.badQuestion(x, word + " \n#", 1);
    }
    check.badQuestion(x, "first 1#", 1);
    check.badQuestion(x, "first 1<#", 1);
    check.badQuestion(x, "first all or#", 1);
    check.badQuestion(x, "first [all#", 1);
    check.badQuestion(x, "first not#", 1);
    check.badQuestion(x, "total (1#", 1);
    check.badQuestion(x, "total 1+#", 1);
    check.badQuestion(x, "total min(1,#", 1);
    check.badQuestion(x, "total shade#", 1);
    check.badQuestion(x, "total at shade #", 1);
    check.says("where a number is asked, a 5th digit at itself");
    check.badQuestion(x, "total 1234#5", 1);
    check.badQuestion(x, "total shade 0000#1", 1);
    check.badQuestion(x, "total#1", 1);
    check.badQuestion(x, "total shade#1", 1);
    check.badQuestion(x, "first 1<2#and all", 1);
    check.answer(x, "total(1)", 3);
    check.answer(x, "total\n1\n", 3);
    check.answer(x, " total 9999 ", 29997);
  }

  private static void faultBehindIt() {
    check.says("what stands behind it, too");
    ShadowCoins x = Check.at(THREE);
    check.badQuestion(x, "total 1#;", 1);
    check.badQuestion(x, "total 1 #1", 1);
    check.badQuestion(x, "total 1 #total 1", 1);
    check.badQuestion(x, "total 1 #foo", 1);
    check.badQuestion(x, "total 1#)", 1);
    check.badQuestion(x, "total 1 #<2", 1);
    check.badQuestion(x, "total 1#" + (char) 0, 1);
    check.badQuestion(x, "first all #all", 1);
    check.badQuestion(x, "first all#]", 1);
    check.badQuestion(x, "first 1<2 #<3", 1);
    check.badQuestion(x, "first all #12345", 1);
  }

  private static void faultOfParts() {
    check.says("TEST, SUM as in I, but PART: N; number; width; hole; minute; here; shade PART; at PART");
    ShadowCoins x = Check.at(THREE);
    for (String word : "turn long price to or and not all stall coin fair gust bridge refuse cloud shut".split(" ")) {
      check.badQuestion(x, "total #" + word, 1);
      check.badQuestion(x, "total 1*#" + word, 1);
    }
    check.badQuestion(x, "total shade #+1", 1);
    check.badQuestion(x, "total at #all", 1);
    check.badQuestion(x, "total shade #-1", 1);
    check.badQuestion(x, "first shade 1#", 1);
    check.badQuestion(x, "total 1#=1", 1);
    check.badQuestion(x, "first (#all)", 1);
  }

  private static void faultOfDepth() {
    check.says("4 the 7th of ( [ not shade at that is open at once (not until its FACT, shade, at until its PART ends), at it");
    ShadowCoins x = Check.at(THREE);
    check.answer(x, "total ((((((1))))))", 3);
    check.badQuestion(x, "total ((((((#(1)))))))", 4);
    check.answer(x, "often [[[[[[all]]]]]]", 3);
    check.badQuestion(x, "often [[[[[[#[all]]]]]]]", 4);
    check.answer(x, "often not not not not not not all", 3);
    check.badQuestion(x, "often not not not not not not #not all", 4);
    // at 3 is 0; at 0 and at 1 are 1 for the first two coins, at 0 is 0 for the third one
    check.answer(x, "total at at at at at at 3", 2);
    check.badQuestion(x, "total at at at at at at #at 3", 4);
    // shade 3 is 0, shade 0 is 5, 9, 2, and of those three it is 0 again
    check.answer(x, "total shade shade shade shade shade shade 3", 5 + 9 + 2);
    check.badQuestion(x, "total shade shade shade shade shade shade #shade 3", 4);
    // shade 0 is 5, 9, 2; at 5 and at 9 are 0, at 2 is 1; shade 0, shade 0, shade 1
    check.answer(x, "total shade (at (shade (0)))", 5 + 9 + 4);
    check.badQuestion(x, "total shade (at (shade (#(0))))", 4);
    check.badQuestion(x, "total shade (at (shade (min#(0,0))))", 4);
    check.badQuestion(x, "often not [not [not [#shade 1=1]]]", 4);
    check.badQuestion(x, "often not [not [not [#at 1=1]]]", 4);
    check.answer(x, "often not [not [at (1)=1]]", 2);
    check.badQuestion(x, "often not [not [at (#at 1)=1]]", 4);
    // what has ended counts no more
    check.answer(x, "total at 3+at 3+at 3+at 3+at 3+at 3+at 3+at 3", 0);
    check.answer(x, "total shade 3*shade 3+shade 3*shade 3+shade 3*shade 3+shade 3", 0);
    check.answer(x, "total shade at (1)+shade at (1)+shade at (1)+shade at (1)", 4 * (18 + 10 + 2));
    check.answer(x, "often not at 1=1 or not at 1=1 or not at 1=1 or not at 1=1", 1);
    check.answer(x, "often not not not not at 1=at 1 and not not not not at 1=at (1)", 3);
    check.badQuestion(x, "often not not not not not at 1=at #(1)", 4);
    check.answer(x, "often not not not not not at 1=at 1", 0);
  }

  private static void withoutAFair() {
    check.says("NOTHING with a FAULT, or, doing nothing else, without a fair");
    ShadowCoins x = new ShadowCoins();
    check.due("NOTHING", ShadowCoins.NOTHING, -1000000000000000L);
    check.due("NONE", ShadowCoins.NONE, -1);
    check.due("without a fair", Check.ask(x, "total 1"), ShadowCoins.NOTHING);
    check.due("no FAULT", x.fault(0), 0);
    check.due("no place", x.fault(1), -1);
    check.says("The tape (it goes) is a QUESTION");
    check.due("the tape is gone", x.end(1), false);
    Check.ask(x, "?");
    check.due("no FAULT", x.fault(0), 0);
    Check.fair(x, "fair 9;");
    check.due("without a fair", Check.ask(x, "?"), ShadowCoins.NOTHING);
    check.due("the fair's FAULT stays", x.fault(0), 2);
    check.due("its place stays", x.fault(1), 5);
  }

  private static void withAFault() {
    check.says("The tape (it goes) is a QUESTION: its answer");
    ShadowCoins x = Check.at(THREE);
    check.answer(x, "total 1", 3);
    check.due("gone behind an answer", x.end(1), false);
    check.badQuestion(x, "total #?", 1);
    check.due("gone behind a FAULT", x.end(1), false);
    check.due("a FAULT is no refusal", x.status(1), 0);
    check.answer(x, "total 1", 3);
    // nothing of a question with a FAULT is in the next one
    check.badQuestion(x, "total ((((((#(", 4);
    check.answer(x, "total ((((((2))))))", 6);
    check.badQuestion(x, "first 1<2 and 1<2 and#", 1);
    check.answer(x, "first number=2", 2);
    check.answer(x, "last number=1", 1);
  }

  private static void manyQuestions() {
    check.says("The tape (it goes) is a QUESTION: its answer");
    ShadowCoins x = Check.at(THREE);
    for (int k = 0; k < 100; k++) {
      check.due("question " + k, Check.ask(x, k % 2 == 0 ? "total number+" + k : "first number>0 or number>1 and all"), k % 2 == 0 ? 3 + 3 * k : 1);
    }
  }

  private static void image(ShadowCoins x, int... bytes) {
    int[] all = Check.sealed(bytes);
    check.due("image", x.image(), all.length);
    for (int k = 0; k < all.length; k++) {
      check.due("octet(" + k + ")", x.octet(k), all[k]);
    }
    check.due("octet behind it", x.octet(all.length), -1);
  }

  private static final String OF_IMAGE = "fair 300;stall a at 20 turn 0 price 1 shut 400;stall b at 0 turn 0 price 1 shut 400;"
      + "coin c width 4 hole 0;gust 100;cloud 290 to 300;cloud 0 to 0;";

  private static void images() {
    check.says("AN IMAGE: MINUTE (two bytes, the higher first), the place; what is BOUGHT, as bits; how many CLOUDS are more than told, for each its MINUTE (two bytes)");
    image(new ShadowCoins(), 0, 0, 0, 0, 0);
    ShadowCoins x = Check.at(OF_IMAGE);
    image(x, 0, 0, 0, 0, 0);
    x.pause(1);
    x.buy(0, 1);
    image(x, 0, 1, 0, 2, 0);
    x.walk(0);
    x.buy(0, 0);
    image(x, 0, 21, 20, 3, 0);
    x.pause(233);
    x.chance(3);
    image(x, 1, 1, 20, 3, 3, 0, 254, 0, 255, 1, 0);
    x.pause(43);
    image(x, 1, 44, 20, 3, 3, 0, 254, 0, 255, 1, 0);
    check.says("how many bytes");
    ShadowCoins y = Check.at("fair 400;gust 100;");
    check.due("the shortest", y.image(), 6);
    y.chance(15);
    check.due("fifteen clouds", y.image(), 36);
    y.chance(385);
    check.due("the longest", y.image(), 38);
    check.due("minute 400", y.octet(0), 1);
    check.due("minute 400", y.octet(1), 144);
    check.due("the last cloud", y.octet(36), 15);
  }

  private static void imageBytes() {
    check.says("last a byte: all ahead from 167 on, c = (3 c + it) mod 251");
    // by hand: 167 501 mod 251 250 750 mod 251 248 744 mod 251 242 726 mod 251 224 672 mod 251 170
    ShadowCoins x = Check.at(OF_IMAGE);
    x.image();
    check.due("the last of five zeros", x.octet(5), 170);
    x.pause(1);
    x.image();
    // 1 in the second byte is 27 more at the end
    check.due("the last of minute 1", x.octet(5), 197);
    x.pause(2);
    x.image();
    check.due("the last of minute 3", x.octet(5), (170 + 81) % 251);
  }

  private static void octets() {
    check.says("Byte k of the latest image(); NONE when there is none such");
    ShadowCoins x = Check.at(OF_IMAGE);
    check.due("ahead of any", x.octet(0), -1);
    x.pause(7);
    x.image();
    for (int k : new int[] {-1, 6, 37, 38, Integer.MAX_VALUE, Integer.MIN_VALUE}) {
      check.due("octet(" + k + ")", x.octet(k), -1);
    }
    x.pause(1);
    check.due("the latest image", x.octet(1), 7);
    x.image();
    check.due("the latest image", x.octet(1), 8);
    x.chance(2);
    x.image();
    check.due("a longer one", x.octet(9), (int) lastOf(0, 10, 0, 0, 2, 0, 8, 0, 9));
    x.undo();
    x.image();
    check.due("a shorter one", x.octet(6), -1);
    Check.on(x, Check.sealed(0, 99, 0, 0, 0));
    check.due("on() writes none", x.octet(1), 8);
    Check.fair(x, "?");
    check.due("fair() writes none", x.octet(1), 8);
  }

  private static long lastOf(int... bytes) {
    return Check.sealed(bytes)[bytes.length];
  }

  private static void onAnswers() {
    check.says("The tape (it goes) is AN IMAGE of this FAIR: true, all is as it tells, nothing is KEPT or can be undone");
    ShadowCoins x = Check.at(OF_IMAGE);
    x.pause(9);
    x.buy(0, 1);
    x.chance(2);
    Check.see(x, 0, 0, 0, 4);
    check.due("on", Check.on(x, Check.sealed(1, 1, 20, 1, 2, 0, 255, 1, 44)), true);
    check.due("the tape is gone", x.end(1), false);
    int[] has = {300, 2, 1, 4, 257, 20, 1, 0, 0, 1, 0};
    for (int what = 0; what < has.length; what++) {
      check.due("has(" + what + ")", x.has(what), has[what]);
    }
    check.due("bought", x.stall(0, 4), 1);
    check.due("not bought", x.stall(1, 4), 0);
    check.due("nothing kept", x.kept(0, 0), -1);
    check.due("nothing to undo", x.undo(), false);
    check.due("a cloud in 255", x.shadow(0, 0, 255), 0);
    check.due("none in 9", x.shadow(0, 0, 9), 4);
    check.due("none in 10", x.shadow(0, 0, 10), 4);
    check.due("a told one", x.shadow(0, 0, 0), 0);
    image(x, 1, 1, 20, 1, 2, 0, 255, 1, 44);
    check.due("what comes then", x.chance(1), 1);
    image(x, 1, 2, 20, 1, 3, 0, 255, 1, 44, 1, 1);
    check.due("undo to the image alone", x.undo(), true);
    check.due("undo to the image alone", x.undo(), false);
    image(x, 1, 1, 20, 1, 2, 0, 255, 1, 44);
    check.due("refused", x.status(5), 0);
  }

  private static void good(String fair, int... bytes) {
    ShadowCoins x = Check.at(fair);
    check.due("on", Check.on(x, Check.sealed(bytes)), true);
    check.due("refused", x.status(5), 0);
    image(x, bytes);
  }

  /** A tape that is none, whole as it is. */
  private static void wrong(String fair, int... tape) {
    ShadowCoins x = Check.at(fair);
    x.pause(5);
    x.chance(1);
    int clouds = x.has(3);
    Check.see(x, 0, 0, 0, 4);
    int rows = x.has(9);
    check.due("on", Check.on(x, tape), false);
    check.due("refused", x.status(5), 1);
    check.due("the tape is gone", x.end(1), false);
    check.due("minute", x.has(4), 6);
    check.due("place", x.has(5), 0);
    check.due("bought", x.has(6), 0);
    check.due("clouds", x.has(3), clouds);
    check.due("acts", x.has(10), 2);
    check.due("seen", x.has(9), rows);
  }

  private static void onMinute() {
    check.says("a MINUTE no later than the fair");
    good(OF_IMAGE, 0, 0, 0, 0, 0);
    good(OF_IMAGE, 1, 43, 0, 0, 0);
    good(OF_IMAGE, 1, 44, 0, 0, 0);
    wrong(OF_IMAGE, Check.sealed(1, 45, 0, 0, 0));
    wrong(OF_IMAGE, Check.sealed(2, 0, 0, 0, 0));
    wrong(OF_IMAGE, Check.sealed(255, 255, 0, 0, 0));
    wrong("fair 10;", Check.sealed(0, 11, 0, 0, 0));
    good("fair 10;", 0, 10, 0, 0, 0);
    good("fair 400;", 1, 144, 0, 0, 0);
    wrong("fair 400;", Check.sealed(1, 145, 0, 0, 0));
  }

  private static void onPlace() {
    check.says("a place 99 at most");
    good(OF_IMAGE, 0, 0, 98, 0, 0);
    good(OF_IMAGE, 0, 0, 99, 0, 0);
    wrong(OF_IMAGE, Check.sealed(0, 0, 100, 0, 0));
    wrong(OF_IMAGE, Check.sealed(0, 0, 255, 0, 0));
  }

  private static void onStalls() {
    check.says("STALLS that there are");
    good(OF_IMAGE, 0, 0, 0, 1, 0);
    good(OF_IMAGE, 0, 0, 0, 3, 0);
    wrong(OF_IMAGE, Check.sealed(0, 0, 0, 4, 0));
    wrong(OF_IMAGE, Check.sealed(0, 0, 0, 7, 0));
    wrong(OF_IMAGE, Check.sealed(0, 0, 0, 128, 0));
    wrong(OF_IMAGE, Check.sealed(0, 0, 0, 255, 0));
    wrong("fair 10;gust 100;", Check.sealed(0, 0, 0, 1, 0));
    StringBuilder six = new StringBuilder("fair 10;");
    for (int k = 0; k < 6; k++) {
      six.append("stall s").append((char) ('a' + k)).append(" at 1 turn 1 price 1 shut 1;");
    }
    good(six.toString(), 0, 0, 0, 63, 0);
    wrong(six.toString(), Check.sealed(0, 0, 0, 64, 0));
  }

  /** The bytes ahead of an image's end, with clouds all in one minute. */
  private static int[] withClouds(int clouds, int minute) {
    int[] bytes = new int[5 + 2 * clouds];
    bytes[4] = clouds;
    for (int k = 0; k < clouds; k++) {
      bytes[5 + 2 * k] = minute >> 8;
      bytes[6 + 2 * k] = minute & 255;
    }
    return bytes;
  }

  private static void onClouds() {
    check.says("no more than 16 CLOUDS with those told");
    good(OF_IMAGE, withClouds(13, 7));
    good(OF_IMAGE, withClouds(14, 7));
    wrong(OF_IMAGE, Check.sealed(withClouds(15, 7)));
    wrong(OF_IMAGE, Check.sealed(withClouds(16, 7)));
    wrong(OF_IMAGE, Check.sealed(withClouds(255, 7)));
    good("fair 10;", withClouds(16, 7));
    wrong("fair 10;", Check.sealed(withClouds(17, 7)));
    good("fair 10;" + "cloud 0 to 9;".repeat(8), withClouds(8, 7));
    wrong("fair 10;" + "cloud 0 to 9;".repeat(8), Check.sealed(withClouds(9, 7)));
    check.says("each in a MINUTE of the fair");
    good(OF_IMAGE, withClouds(1, 0));
    good(OF_IMAGE, withClouds(1, 300));
    wrong(OF_IMAGE, Check.sealed(withClouds(1, 301)));
    wrong(OF_IMAGE, Check.sealed(withClouds(1, 65535)));
    wrong(OF_IMAGE, Check.sealed(0, 0, 0, 0, 2, 0, 1, 1, 45));
    wrong(OF_IMAGE, Check.sealed(0, 0, 0, 0, 2, 1, 45, 0, 1));
    good("fair 400;", withClouds(16, 400));
    wrong("fair 400;", Check.sealed(withClouds(16, 401)));
    // told in any order, and one minute twice
    good(OF_IMAGE, 0, 0, 0, 0, 3, 0, 9, 0, 3, 0, 9);
  }

  private static void onLength() {
    check.says("false, refused (5), when it is none");
    wrong(OF_IMAGE);
    wrong(OF_IMAGE, 0);
    wrong(OF_IMAGE, Check.sealed());
    wrong(OF_IMAGE, Check.sealed(0, 0, 0, 0));
    wrong(OF_IMAGE, 0, 0, 0, 0, 0);
    wrong(OF_IMAGE, 0, 0, 0, 0, 0, 170, 0);
    wrong(OF_IMAGE, Check.sealed(0, 0, 0, 0, 0, 0));
    wrong(OF_IMAGE, Check.sealed(0, 0, 0, 0, 0, 0, 7));
    wrong(OF_IMAGE, Check.sealed(0, 0, 0, 0, 1));
    wrong(OF_IMAGE, Check.sealed(0, 0, 0, 0, 1, 0));
    wrong(OF_IMAGE, Check.sealed(0, 0, 0, 0, 1, 0, 7, 0));
    wrong(OF_IMAGE, Check.sealed(0, 0, 0, 0, 1, 0, 7, 0, 7));
    wrong(OF_IMAGE, Check.sealed(0, 0, 0, 0, 2, 0, 7));
  }

  private static void onEndByte() {
    check.says("last a byte");
    for (int end : new int[] {0, 169, 171, 255}) {
      wrong(OF_IMAGE, 0, 0, 0, 0, 0, end);
    }
    ShadowCoins x = Check.at(OF_IMAGE);
    check.due("170", Check.on(x, 0, 0, 0, 0, 0, 170), true);
    // 251 more would be alike in mod 251 alone
    int[] bytes = Check.sealed(0, 27, 0, 0, 0);
    check.due("an end below 5", bytes[5] < 251, true);
    wrong(OF_IMAGE, 0, 27, 0, 0, 0, bytes[5] + 1);
    int[] zero = Check.sealed(0, 3, 0, 0, 0);
    check.due("an end of 0", zero[5], 0);
    wrong(OF_IMAGE, 0, 3, 0, 0, 0, 251);
    check.due("0", Check.on(x, zero), true);
  }

  private static void onWithoutAFair() {
    check.says("or without a fair, all staying");
    ShadowCoins x = new ShadowCoins();
    check.due("on", Check.on(x, Check.sealed(0, 0, 0, 0, 0)), false);
    check.due("refused", x.status(5), 1);
    check.due("the tape is gone", x.end(1), false);
    check.due("on", Check.on(x, Check.sealed(0, 0, 9, 0, 0)), false);
    check.due("place", x.has(5), 0);
    Check.fair(x, "?");
    check.due("a fair with a FAULT is none", Check.on(x, Check.sealed(0, 0, 0, 0, 0)), false);
    check.due("refused", x.status(5), 3);
  }

  private static void onAndAway() {
    check.says("all is as it tells");
    ShadowCoins x = Check.at(OF_IMAGE);
    Check.on(x, Check.sealed(0, 5, 99, 0, 0));
    check.due("walk from 99", x.walk(0), 5 + 79);
    check.due("buy", x.buy(0, 0), true);
    check.due("kept", x.kept(0, 0), 84);
    check.due("acts", x.has(10), 2);
    check.due("undo", x.undo(), true);
    check.due("undo", x.undo(), true);
    check.due("place", x.has(5), 99);
    check.due("minute", x.has(4), 5);
    check.due("the seed is not in it", x.seed(1), true);
    Check.fair(x, "fair 20;gust 19;");
    Check.on(x, Check.sealed(0, 5, 0, 0, 0));
    check.due("the first DRAW, 18", x.chance(1), 1);
    // at the fair's end
    Check.on(x, Check.sealed(0, 20, 0, 0, 0));
    check.due("no minute more", x.pause(1), false);
    check.due("no minute more", x.chance(1), -1);
    Check.fair(x, OF_IMAGE);
    check.due("a fair goes back to place 0", x.has(5), 0);
  }
}
