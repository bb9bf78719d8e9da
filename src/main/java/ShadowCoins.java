import java.util.Arrays;

/**
 * A fair told as a text, whose stalls are paid in shadows of coins. The class itself looks at the
 * arguments and counts refusals; the classes inside it read, reckon and remember. All rows are
 * made once, in the constructors: no call makes an object.
 */
public final class ShadowCoins {
  public static final int NONE = -1;
  public static final long NOTHING = -1000000000000000L;

  private static final int LONGEST_TAPE = 1600;
  private static final int FED_AT_ONCE = 20;
  private static final int LONGEST_IMAGE = 38;
  private static final int MOST_STATEMENTS = 80;
  private static final int MOST_STALLS = 6;
  private static final int MOST_COINS = 8;
  private static final int MOST_TOLD_CLOUDS = 8;
  private static final int MOST_CLOUDS = 16;
  private static final int MOST_SEEN = 16;
  private static final int BYTES_OF_SEEN = 4;
  private static final int MOST_UNDONE = 20;
  private static final int MOST_OPEN = 6;
  private static final int LONGEST_NAME = 6;
  private static final int BITS_OF_LETTER = 5;
  private static final int MOST_DIGITS = 4;
  private static final int GREATEST_NUMBER = 9999;
  private static final int LEAST_MINUTES = 10;
  private static final int LATEST = 400;
  private static final int LAST_PLACE = 99;
  private static final int LONGEST_SHADOW = 999;
  private static final int FARTHEST = 1000000;
  private static final int DRAW_OF = 100;

  private static final int NO_SUCH_TEXT = 1;
  private static final int NO_SUCH_NUMBER = 2;
  private static final int NAME_TWICE = 3;
  private static final int TOO_DEEP = 4;
  private static final int TOO_MANY = 5;

  /** All words, each in six columns, in the order of the numbers below: the OWN WORDS first. */
  private static final String WORDS = "fair  stall at    turn  price shut  coin  width hole  cloud to    shade refusebridgegust  long  minutenumberhere  or    and   not   all   min   max   first last  often total most  least ";
  private static final int FAIR = 0;
  private static final int STALL = 1;
  private static final int AT = 2;
  private static final int TURN = 3;
  private static final int PRICE = 4;
  private static final int SHUT = 5;
  private static final int COIN = 6;
  private static final int WIDTH = 7;
  private static final int HOLE = 8;
  private static final int CLOUD = 9;
  private static final int TO = 10;
  private static final int SHADE = 11;
  private static final int REFUSE = 12;
  private static final int BRIDGE = 13;
  private static final int GUST = 14;
  private static final int LONG = 15;
  private static final int MINUTE = 16;
  private static final int NUMBER = 17;
  private static final int HERE = 18;
  private static final int OR = 19;
  private static final int AND = 20;
  private static final int NOT = 21;
  private static final int ALL = 22;
  private static final int MIN = 23;
  private static final int MAX = 24;
  private static final int FIRST = 25;
  private static final int LAST = 26;
  private static final int OFTEN = 27;
  private static final int TOTAL = 28;
  private static final int MOST = 29;
  private static final int LEAST = 30;
  private static final int WORD_COUNT = 31;

  private static final int REFUSED_TAPE = 0;
  private static final int REFUSED_TOLD = 1;
  private static final int REFUSED_GOING = 2;
  private static final int REFUSED_WAITING = 3;
  private static final int REFUSED_UNDO = 4;
  private static final int REFUSED_SETTING = 5;
  private static final int REFUSED_SORTS = 6;

  private final Tape tape = new Tape(LONGEST_TAPE);
  private final Tape picture = new Tape(LONGEST_IMAGE);
  private final Scanner scan = new Scanner(tape);
  private final Code asked = new Code();
  private final Grammar grammar = new Grammar(scan, asked);
  private final FairReader reader = new FairReader(scan, grammar);
  private final Day day = new Day();
  private final Seen seen = new Seen();
  private final Planner planner = new Planner();
  private final Reckoner questioner = new Reckoner();
  private final int[] refusals = new int[REFUSED_SORTS];
  /** The told fair (without one its minutes are 0) and the one that the next text is read into. */
  private Fair told = new Fair();
  private Fair spare = new Fair();
  private final Light light = new Light(told);
  private int faultKind = 0;
  private int faultPlace = NONE;

  public ShadowCoins() {
  }

  public int feed(int a, int b, int c, int d, int e) {
    if (tape.length + FED_AT_ONCE > LONGEST_TAPE) {
      return refuse(REFUSED_TAPE);
    }
    tape.putFour(a);
    tape.putFour(b);
    tape.putFour(c);
    tape.putFour(d);
    tape.putFour(e);
    return tape.length;
  }

  public boolean end(int n) {
    if (n < 0 || n > tape.length) {
      refuse(REFUSED_TAPE);
      return false;
    }
    tape.length = n;
    return true;
  }

  public int fair() {
    int statements = reader.read(spare);
    tape.length = 0;
    noteFault();
    if (faultKind != 0) {
      return refuse(REFUSED_TOLD);
    }
    Fair before = told;
    told = spare;
    spare = before;
    day.begin();
    seen.rows = 0;
    light.begin(told);
    light.markClouds(day);
    return statements;
  }

  public int fault(int what) {
    switch (what) {
      case 0: return faultKind;
      case 1: return faultPlace;
      default: return NONE;
    }
  }

  public int has(int what) {
    switch (what) {
      case 0: return told.minutes;
      case 1: return told.stalls;
      case 2: return told.coins;
      case 3: return told.clouds + day.clouds;
      case 4: return day.minute;
      case 5: return day.place;
      case 6: return Integer.bitCount(day.bought);
      case 7: return light.isCloudy(day.minute) ? 1 : 0;
      case 8: return day.keptCount;
      case 9: return seen.rows;
      case 10: return day.acts;
      default: return NONE;
    }
  }

  public int letter(int kind, int which, int k) {
    if (k < 0 || k >= LONGEST_NAME) {
      return NONE;
    }
    if (kind == 0 && isStall(which)) {
      return letterOf(told.stallName[which], k);
    }
    if (kind == 1 && isCoin(which)) {
      return letterOf(told.coinName[which], k);
    }
    return NONE;
  }

  public int stall(int stall, int what) {
    if (!isStall(stall)) {
      return NONE;
    }
    switch (what) {
      case 0: return told.place[stall];
      case 1: return told.turn[stall];
      case 2: return told.price[stall];
      case 3: return told.shut[stall];
      case 4: return day.hasBought(stall) ? 1 : 0;
      default: return NONE;
    }
  }

  public int coin(int coin, int what) {
    if (!isCoin(coin)) {
      return NONE;
    }
    switch (what) {
      case 0: return told.width[coin];
      case 1: return told.hole[coin];
      default: return NONE;
    }
  }

  public int shadow(int coin, int stall, int minute) {
    if (!isCoin(coin) || !isStall(stall) || !isMinute(minute)) {
      return NONE;
    }
    return light.lengthAt(coin, stall, minute);
  }

  public int buys(int coin, int stall, int minute) {
    if (!isCoin(coin) || !isStall(stall) || !isMinute(minute)) {
      return NONE;
    }
    return light.paysAt(coin, stall, minute) ? 1 : 0;
  }

  public int kept(int k, int what) {
    if (k < 0 || k >= day.keptCount) {
      return NONE;
    }
    switch (what) {
      case 0: return day.keptMinute[k];
      case 1: return day.keptStall[k];
      case 2: return day.keptCoin[k];
      default: return NONE;
    }
  }

  public int when(int coin, int stall, int what) {
    if (!isCoin(coin) || !isStall(stall)) {
      return NONE;
    }
    switch (what) {
      case 0: return firstPaying(coin, stall);
      case 1: return lastPaying(coin, stall);
      default: return NONE;
    }
  }

  public int round(int coin, int k) {
    if (!isCoin(coin) || k < NONE) {
      return NONE;
    }
    planner.plan(told, light, day, coin);
    if (planner.soonestEnd == NONE || k == NONE) {
      return planner.soonestEnd;
    }
    return k < Integer.bitCount(planner.wanted) ? planner.soonestOrder[k] : NONE;
  }

  public int blocked(int coin) {
    if (!isCoin(coin)) {
      return NONE;
    }
    planner.plan(told, light, day, coin);
    return planner.fewestLeftOut();
  }

  public int strike(int coin, int what) {
    if (!isCoin(coin) || what < 0 || what > 1) {
      return NONE;
    }
    int longest = 0;
    int longestFirst = NONE;
    int length = 0;
    for (int minute = day.minute; minute <= told.minutes; minute++) {
      length = payingStalls(coin, minute) == 0 ? length + 1 : 0;
      if (length > longest) {
        longest = length;
        longestFirst = minute - length + 1;
      }
    }
    return what == 0 ? longest : longestFirst;
  }

  public int handy(int minute) {
    if (!isMinute(minute)) {
      return NONE;
    }
    int handiest = NONE;
    int most = NONE;
    for (int coin = 0; coin < told.coins; coin++) {
      int stalls = payingStalls(coin, minute);
      if (stalls > most) {
        most = stalls;
        handiest = coin;
      }
    }
    return handiest;
  }

  public int odd(int coin, int one, int other) {
    if (!isCoin(coin) || !isStall(one) || !isStall(other) || one == other) {
      return NONE;
    }
    for (int minute = day.minute; minute <= told.minutes; minute++) {
      if (light.paysAt(coin, one, minute) && !light.paysAt(coin, other, minute)) {
        return minute;
      }
    }
    return NONE;
  }

  public int bridge(int stall, int minute) {
    if (!isStall(stall) || !isMinute(minute)) {
      return NONE;
    }
    int fewest = NONE;
    for (int coins = 0; coins < 1 << told.coins; coins++) {
      boolean fewer = fewest == NONE || Integer.bitCount(coins) < Integer.bitCount(fewest);
      if (fewer && lengthTogether(coins, stall, minute) >= told.toll) {
        fewest = coins;
      }
    }
    return fewest;
  }

  public int change(int stall, int much, int what) {
    if (!isStall(stall) || much < 0 || much > LONGEST_SHADOW || what < 0 || what > 1) {
      return NONE;
    }
    for (int first = 0; first < told.coins; first++) {
      int length = light.lengthAt(first, stall, day.minute);
      for (int second = 0; second < told.coins; second++) {
        if (first != second && length - light.lengthAt(second, stall, day.minute) == much) {
          return what == 0 ? first : second;
        }
      }
    }
    return NONE;
  }

  public int chalked(int stall, int length, int what) {
    if (!isStall(stall) || length < 0 || length > LONGEST_SHADOW || what < 0 || what > 2) {
      return NONE;
    }
    int pairs = 0;
    for (int minute = 0; minute <= told.minutes; minute++) {
      for (int coin = 0; coin < told.coins; coin++) {
        if (light.lengthAt(coin, stall, minute) == length) {
          if (what != 0) {
            return what == 1 ? minute : coin;
          }
          pairs++;
        }
      }
    }
    return what == 0 ? pairs : NONE;
  }

  public int see() {
    boolean good = seen.isSuch(tape, told);
    if (good) {
      seen.take(tape);
    }
    tape.length = 0;
    return good ? seen.rows : refuse(REFUSED_TOLD);
  }

  public int minutes(int what) {
    if (told.minutes == 0 || what < 0 || what > 2) {
      return NONE;
    }
    int count = 0;
    int first = NONE;
    int last = NONE;
    for (int minute = 0; minute <= told.minutes; minute++) {
      if (seen.wrongRows(light, minute) == 0) {
        count++;
        first = first == NONE ? minute : first;
        last = minute;
      }
    }
    if (what == 0) {
      return count;
    }
    return what == 1 ? first : last;
  }

  public int lamps(int what) {
    if (told.minutes == 0 || what < 0 || what > 2) {
      return NONE;
    }
    int fewest = seen.wrongRows(light, 0);
    int first = 0;
    for (int minute = 1; minute <= told.minutes; minute++) {
      int wrong = seen.wrongRows(light, minute);
      if (Integer.bitCount(wrong) < Integer.bitCount(fewest)) {
        fewest = wrong;
        first = minute;
      }
    }
    if (what == 0) {
      return Integer.bitCount(fewest);
    }
    return what == 1 ? fewest : first;
  }

  public int walk(int stall) {
    if (!isStall(stall)) {
      return refuse(REFUSED_GOING);
    }
    int way = Math.abs(told.place[stall] - day.place);
    if (way == 0 || day.minute + way > told.minutes) {
      return refuse(REFUSED_GOING);
    }
    day.remember();
    day.minute += way;
    day.place = told.place[stall];
    return day.minute;
  }

  public boolean pause(int n) {
    if (!canWait(n)) {
      refuse(REFUSED_WAITING);
      return false;
    }
    day.remember();
    day.minute += n;
    return true;
  }

  public boolean buy(int coin, int stall) {
    if (!canBuy(coin, stall)) {
      refuse(REFUSED_GOING);
      return false;
    }
    day.remember();
    day.keep(coin, stall);
    return true;
  }

  public int chance(int n) {
    if (!canWait(n)) {
      return refuse(REFUSED_WAITING);
    }
    day.remember();
    int before = day.clouds;
    for (int i = 0; i < n; i++) {
      day.waitByChance(told);
    }
    light.markClouds(day);
    return day.clouds - before;
  }

  public boolean undo() {
    if (day.acts == 0) {
      refuse(REFUSED_UNDO);
      return false;
    }
    day.takeBack();
    light.markClouds(day);
    return true;
  }

  public boolean seed(int seed) {
    if (seed < 0) {
      refuse(REFUSED_SETTING);
      return false;
    }
    day.drawn = seed;
    return true;
  }

  public long ask() {
    if (told.minutes == 0) {
      tape.length = 0;
      return NOTHING;
    }
    int word = readQuestion();
    tape.length = 0;
    noteFault();
    if (faultKind != 0) {
      return NOTHING;
    }
    return word <= OFTEN ? answerTest(word) : answerSum(word);
  }

  public int image() {
    day.write(picture);
    return picture.length;
  }

  public int octet(int k) {
    return picture.at(k);
  }

  public boolean on() {
    boolean good = told.minutes > 0 && isImage();
    if (good) {
      day.read(tape);
      light.markClouds(day);
    } else {
      refuse(REFUSED_SETTING);
    }
    tape.length = 0;
    return good;
  }

  public int status(int what) {
    return what >= 0 && what < REFUSED_SORTS ? refusals[what] : NONE;
  }

  private int refuse(int sort) {
    refusals[sort]++;
    return NONE;
  }

  private void noteFault() {
    faultKind = scan.fault;
    faultPlace = scan.place;
  }

  private boolean isStall(int stall) {
    return stall >= 0 && stall < told.stalls;
  }

  private boolean isCoin(int coin) {
    return coin >= 0 && coin < told.coins;
  }

  private boolean isMinute(int minute) {
    return minute >= 0 && minute <= told.minutes;
  }

  private boolean canWait(int n) {
    return n >= 1 && n <= LATEST && day.minute + n <= told.minutes;
  }

  private boolean canBuy(int coin, int stall) {
    return isCoin(coin) && isStall(stall) && told.place[stall] == day.place
        && !day.hasBought(stall) && light.paysAt(coin, stall, day.minute);
  }

  private int firstPaying(int coin, int stall) {
    for (int minute = day.minute; minute <= told.minutes; minute++) {
      if (light.paysAt(coin, stall, minute)) {
        return minute;
      }
    }
    return NONE;
  }

  private int lastPaying(int coin, int stall) {
    for (int minute = told.minutes; minute >= day.minute; minute--) {
      if (light.paysAt(coin, stall, minute)) {
        return minute;
      }
    }
    return NONE;
  }

  private int payingStalls(int coin, int minute) {
    int stalls = 0;
    for (int stall = 0; stall < told.stalls; stall++) {
      if (light.paysAt(coin, stall, minute)) {
        stalls++;
      }
    }
    return stalls;
  }

  private int lengthTogether(int coins, int stall, int minute) {
    int together = 0;
    for (int coin = 0; coin < told.coins; coin++) {
      if ((coins >> coin & 1) == 1) {
        together += light.lengthAt(coin, stall, minute);
      }
    }
    return together;
  }

  /** Whether the tape is an image of the told fair. */
  private boolean isImage() {
    int clouds = tape.at(Day.CLOUDS_BYTE);
    if (clouds == NONE || tape.length != Day.imageLength(clouds) || told.clouds + clouds > MOST_CLOUDS
        || tape.at(tape.length - 1) != tape.check(tape.length - 1)) {
      return false;
    }
    for (int k = 0; k < clouds; k++) {
      if (tape.twoAt(Day.CLOUDS_BYTE + 1 + 2 * k) > told.minutes) {
        return false;
      }
    }
    return tape.twoAt(0) <= told.minutes && tape.at(Day.PLACE_BYTE) <= LAST_PLACE
        && tape.at(Day.BOUGHT_BYTE) < 1 << told.stalls;
  }

  /** Reads the tape as a question: its first word, NONE with a fault. */
  private int readQuestion() {
    scan.begin();
    int word = scan.kind == Scanner.WORD && scan.value >= FIRST ? scan.value : NONE;
    if (word == NONE) {
      scan.fail(NO_SUCH_TEXT, scan.start);
      return NONE;
    }
    scan.step();
    grammar.begin(asked, Grammar.IN_QUESTION);
    if (word <= OFTEN) {
      grammar.test();
    } else {
      grammar.sum();
    }
    if (scan.kind != Scanner.END) {
      scan.fail(NO_SUCH_TEXT, scan.start);
    }
    return word;
  }

  /** What first, last and often answer. */
  private long answerTest(int word) {
    int often = 0;
    int latest = NONE;
    for (int coin = 0; coin < told.coins; coin++) {
      lookAt(coin);
      if (questioner.run(asked) != 0) {
        if (word == FIRST) {
          return coin;
        }
        often++;
        latest = coin;
      }
    }
    return word == OFTEN ? often : latest;
  }

  /** What total, most and least answer. */
  private long answerSum(int word) {
    long answer = 0;
    for (int coin = 0; coin < told.coins; coin++) {
      lookAt(coin);
      long one = questioner.run(asked);
      if (word == TOTAL) {
        answer += one;
      } else if (coin == 0 || (word == MOST ? one > answer : one < answer)) {
        answer = one;
      }
    }
    return answer;
  }

  /** Lays out for the questioner what a question can tell of a coin now. */
  private void lookAt(int coin) {
    questioner.number = coin;
    questioner.width = told.width[coin];
    questioner.hole = told.hole[coin];
    questioner.minute = day.minute;
    questioner.here = NONE;
    questioner.stalls = told.stalls;
    for (int stall = told.stalls - 1; stall >= 0; stall--) {
      questioner.lengths[stall] = light.lengthAt(coin, stall, day.minute);
      questioner.pays[stall] = light.paysAt(coin, stall, day.minute) ? 1 : 0;
      if (told.place[stall] == day.place) {
        questioner.here = questioner.lengths[stall];
      }
    }
  }

  private static int letterOf(int name, int k) {
    return name >> BITS_OF_LETTER * k & (1 << BITS_OF_LETTER) - 1;
  }

  /** A row of bytes, written at its end. */
  private static final class Tape {
    private final int[] bytes;
    int length = 0;

    Tape(int longest) {
      bytes = new int[Math.max(0, longest)];
    }

    void put(int octet) {
      if (length >= 0 && length < bytes.length) {
        bytes[length] = octet & 255;
        length++;
      }
    }

    void putTwo(int number) {
      put(number >> 8);
      put(number);
    }

    void putFour(int number) {
      putTwo(number >> 16);
      putTwo(number);
    }

    /** Byte k; NONE where there is none. */
    int at(int k) {
      return k >= 0 && k < length && k < bytes.length ? bytes[k] : NONE;
    }

    int twoAt(int k) {
      return at(k) << 8 | at(k + 1);
    }

    /** The byte that ends an image whose bytes ahead of it are the first count ones. */
    int check(int count) {
      int c = 167;
      for (int k = 0; k < count; k++) {
        c = (3 * c + at(k)) % 251;
      }
      return c;
    }
  }

  /** What a fair's text tells. */
  private static final class Fair {
    int minutes = 0;
    int stalls = 0;
    final int[] stallName = new int[MOST_STALLS];
    final int[] place = new int[MOST_STALLS];
    final int[] turn = new int[MOST_STALLS];
    final int[] price = new int[MOST_STALLS];
    final int[] shut = new int[MOST_STALLS];
    int coins = 0;
    final int[] coinName = new int[MOST_COINS];
    final int[] width = new int[MOST_COINS];
    final int[] hole = new int[MOST_COINS];
    int clouds = 0;
    final int[] cloudFirst = new int[MOST_TOLD_CLOUDS];
    final int[] cloudLast = new int[MOST_TOLD_CLOUDS];
    /** Both are empty where the text does not tell them. */
    final Code shade = new Code();
    final Code refuse = new Code();
    int toll = 0;
    int gust = 0;

    void clear() {
      minutes = 0;
      stalls = 0;
      coins = 0;
      clouds = 0;
      shade.size = 0;
      refuse.size = 0;
      toll = 0;
      gust = 0;
    }

    boolean hasName(int name) {
      for (int k = 0; k < stalls; k++) {
        if (stallName[k] == name) {
          return true;
        }
      }
      for (int k = 0; k < coins; k++) {
        if (coinName[k] == name) {
          return true;
        }
      }
      return false;
    }
  }

  /** A TEST or a SUM with each operation behind what it works on. */
  private static final class Code {
    /** Numbers of the text stand as they are, operations (a word's number, a sign's byte) above. */
    static final int OPERATIONS = GREATEST_NUMBER + 1;
    /** No text is longer, and each step comes from a byte of its own. */
    final int[] steps = new int[LONGEST_TAPE];
    int size = 0;

    void put(int step) {
      if (size >= 0 && size < steps.length) {
        steps[size] = step;
        size++;
      }
    }

    void putOperation(int operation) {
      put(OPERATIONS + operation);
    }
  }

  /** Cuts the tape into words, numbers and signs, and holds the first fault. */
  private static final class Scanner {
    static final int END = 0;
    static final int WORD = 1;
    static final int NUMERAL = 2;
    static final int SIGN = 3;
    /** Nothing that a text can go on with. */
    static final int STUCK = 4;

    private final Tape tape;
    int start = 0;
    int end = 0;
    int kind = END;
    /** A word's number in WORDS or NONE, a number by its first four digits, a sign's byte. */
    int value = 0;
    int fault = 0;
    int place = NONE;

    Scanner(Tape tape) {
      this.tape = tape;
    }

    void begin() {
      end = 0;
      kind = END;
      fault = 0;
      place = NONE;
      step();
    }

    /** Only the first fault counts; behind it the text is stuck, so that all readers come to their end. */
    void fail(int kindOfFault, int at) {
      if (fault == 0) {
        fault = kindOfFault;
        place = at;
      }
      kind = STUCK;
    }

    void step() {
      if (fault != 0) {
        return;
      }
      boolean behindWord = kind == WORD || kind == NUMERAL;
      start = end;
      while (start < tape.length && isBlank(tape.at(start))) {
        start++;
      }
      boolean joined = behindWord && start == end;
      int first = tape.at(start);
      if (isLetter(first)) {
        readWord();
      } else if (isDigit(first)) {
        readNumeral();
      } else {
        kind = first == NONE ? END : SIGN;
        value = first;
        end = first == NONE ? start : start + 1;
        return;
      }
      if (joined) {
        kind = STUCK;
      }
    }

    private void readWord() {
      kind = WORD;
      end = start;
      while (end < tape.length && isLetter(tape.at(end))) {
        end++;
      }
      value = NONE;
      int letters = end - start;
      for (int word = 0; word < WORD_COUNT && letters <= LONGEST_NAME; word++) {
        int column = word * LONGEST_NAME;
        int k = 0;
        while (k < letters && WORDS.charAt(column + k) == tape.at(start + k)) {
          k++;
        }
        if (k == letters && (k == LONGEST_NAME || WORDS.charAt(column + k) == ' ')) {
          value = word;
        }
      }
    }

    private void readNumeral() {
      kind = NUMERAL;
      value = 0;
      end = start;
      while (end < tape.length && isDigit(tape.at(end))) {
        if (end - start < MOST_DIGITS) {
          value = 10 * value + tape.at(end) - '0';
        }
        end++;
      }
    }

    boolean isWord(int word) {
      return kind == WORD && value == word;
    }

    boolean isSign(int sign) {
      return kind == SIGN && value == sign;
    }

    void takeWord(int word) {
      if (isWord(word)) {
        step();
      } else {
        fail(NO_SUCH_TEXT, start);
      }
    }

    void takeSign(int sign) {
      if (isSign(sign)) {
        step();
      } else {
        fail(NO_SUCH_TEXT, start);
      }
    }

    /** The number that stands here; 0 with a fault. */
    int takeNumber(int least, int greatest) {
      int number = value;
      if (kind != NUMERAL) {
        fail(NO_SUCH_TEXT, start);
      } else if (end - start > MOST_DIGITS) {
        fail(NO_SUCH_TEXT, start + MOST_DIGITS);
      } else if (number < least || number > greatest) {
        fail(NO_SUCH_NUMBER, start);
      }
      step();
      return fault == 0 ? number : 0;
    }

    /** The NAME that stands here, its first letter in the lowest bits; 0 with a fault. */
    int takeName(Fair fair) {
      if (kind != WORD || value >= FAIR && value <= MAX) {
        fail(NO_SUCH_TEXT, start);
        return 0;
      }
      if (end - start > LONGEST_NAME) {
        fail(NO_SUCH_TEXT, start + LONGEST_NAME);
        return 0;
      }
      int name = 0;
      for (int k = end - 1; k >= start; k--) {
        name = name << BITS_OF_LETTER | tape.at(k) - 'a' + 1;
      }
      if (fair.hasName(name)) {
        fail(NAME_TWICE, start);
      }
      step();
      return name;
    }

    private static boolean isBlank(int octet) {
      return octet == ' ' || octet == '\n';
    }

    private static boolean isLetter(int octet) {
      return octet >= 'a' && octet <= 'z';
    }

    private static boolean isDigit(int octet) {
      return octet >= '0' && octet <= '9';
    }
  }

  /** Reads a TEST or a SUM into code. */
  private static final class Grammar {
    static final int IN_SHADE = 0;
    static final int IN_REFUSE = 1;
    static final int IN_QUESTION = 2;

    private final Scanner scan;
    private Code code;
    private int where = IN_SHADE;
    private int open = 0;

    Grammar(Scanner scan, Code code) {
      this.scan = scan;
      this.code = code;
    }

    void begin(Code into, int sort) {
      code = into;
      code.size = 0;
      where = sort;
      open = 0;
    }

    private void test() {
      both();
      for (int n = 0; n < LONGEST_TAPE && scan.isWord(OR); n++) {
        scan.step();
        both();
        code.putOperation(OR);
      }
    }

    private void both() {
      fact();
      for (int n = 0; n < LONGEST_TAPE && scan.isWord(AND); n++) {
        scan.step();
        fact();
        code.putOperation(AND);
      }
    }

    private void fact() {
      if (scan.isWord(NOT)) {
        enter();
        fact();
        leave();
        code.putOperation(NOT);
      } else if (scan.isSign('[')) {
        enter();
        test();
        scan.takeSign(']');
        leave();
      } else if (scan.isWord(ALL)) {
        scan.step();
        code.putOperation(ALL);
      } else {
        sum();
        int sign = scan.value;
        if (!scan.isSign('<') && !scan.isSign('>') && !scan.isSign('=')) {
          scan.fail(NO_SUCH_TEXT, scan.start);
        }
        scan.step();
        sum();
        code.putOperation(sign);
      }
    }

    private void sum() {
      product();
      for (int n = 0; n < LONGEST_TAPE && (scan.isSign('+') || scan.isSign('-')); n++) {
        int sign = scan.value;
        scan.step();
        product();
        code.putOperation(sign);
      }
    }

    private void product() {
      part();
      for (int n = 0; n < LONGEST_TAPE && (scan.isSign('*') || scan.isSign('/')); n++) {
        int sign = scan.value;
        scan.step();
        part();
        code.putOperation(sign);
      }
    }

    private void part() {
      int word = scan.value;
      if (scan.kind == Scanner.NUMERAL) {
        code.put(scan.takeNumber(0, GREATEST_NUMBER));
      } else if (scan.isSign('(')) {
        enter();
        sum();
        scan.takeSign(')');
        leave();
      } else if (scan.isWord(MIN) || scan.isWord(MAX)) {
        twoSums();
        code.putOperation(word);
      } else if (where == IN_QUESTION && (scan.isWord(SHADE) || scan.isWord(AT))) {
        enter();
        part();
        leave();
        code.putOperation(word);
      } else if (scan.kind == Scanner.WORD && isValue(word)) {
        scan.step();
        code.putOperation(word);
      } else {
        scan.fail(NO_SUCH_TEXT, scan.start);
      }
    }

    private void twoSums() {
      scan.step();
      if (!scan.isSign('(')) {
        scan.fail(NO_SUCH_TEXT, scan.start);
        return;
      }
      enter();
      sum();
      scan.takeSign(',');
      sum();
      scan.takeSign(')');
      leave();
    }

    private void enter() {
      if (open >= MOST_OPEN) {
        scan.fail(TOO_DEEP, scan.start);
      }
      open++;
      scan.step();
    }

    private void leave() {
      open--;
    }

    private boolean isValue(int word) {
      switch (word) {
        case WIDTH:
        case HOLE:
        case MINUTE:
          return true;
        case TURN:
          return where != IN_QUESTION;
        case LONG:
        case PRICE:
          return where == IN_REFUSE;
        case NUMBER:
        case HERE:
          return where == IN_QUESTION;
        default:
          return false;
      }
    }
  }

  /** Reads a fair's text. */
  private static final class FairReader {
    private final Scanner scan;
    private final Grammar grammar;

    FairReader(Scanner scan, Grammar grammar) {
      this.scan = scan;
      this.grammar = grammar;
    }

    /** How many statements there are; with a fault the scanner has it, and the fair is of no use. */
    int read(Fair fair) {
      fair.clear();
      scan.begin();
      int statements = 0;
      while (statements < MOST_STATEMENTS && scan.fault == 0 && scan.kind != Scanner.END) {
        readStatement(fair, statements == 0);
        scan.takeSign(';');
        statements++;
      }
      if (statements == 0) {
        scan.fail(NO_SUCH_TEXT, scan.start);
      } else if (scan.kind != Scanner.END) {
        scan.fail(TOO_MANY, scan.start);
      }
      return statements;
    }

    private void readStatement(Fair fair, boolean first) {
      if (scan.kind != Scanner.WORD || first != scan.isWord(FAIR)) {
        scan.fail(NO_SUCH_TEXT, scan.start);
        return;
      }
      switch (scan.value) {
        case FAIR:
          scan.step();
          fair.minutes = scan.takeNumber(LEAST_MINUTES, LATEST);
          break;
        case STALL:
          readStall(fair);
          break;
        case COIN:
          readCoin(fair);
          break;
        case CLOUD:
          readCloud(fair);
          break;
        case SHADE:
          if (hasRoom(fair.shade.size, 1)) {
            scan.step();
            grammar.begin(fair.shade, Grammar.IN_SHADE);
            grammar.sum();
          }
          break;
        case REFUSE:
          if (hasRoom(fair.refuse.size, 1)) {
            scan.step();
            grammar.begin(fair.refuse, Grammar.IN_REFUSE);
            grammar.test();
          }
          break;
        case BRIDGE:
          scan.step();
          fair.toll = scan.takeNumber(0, GREATEST_NUMBER);
          break;
        case GUST:
          scan.step();
          fair.gust = scan.takeNumber(0, DRAW_OF);
          break;
        default:
          scan.fail(NO_SUCH_TEXT, scan.start);
      }
    }

    /** Whether one more of a kind can be, of which there are so many; else there is a fault. */
    private boolean hasRoom(int count, int most) {
      if (count < most) {
        return true;
      }
      scan.fail(TOO_MANY, scan.start);
      return false;
    }

    private void readStall(Fair fair) {
      int k = fair.stalls;
      if (!hasRoom(k, MOST_STALLS)) {
        return;
      }
      scan.step();
      fair.stallName[k] = scan.takeName(fair);
      scan.takeWord(AT);
      fair.place[k] = scan.takeNumber(0, LAST_PLACE);
      scan.takeWord(TURN);
      fair.turn[k] = scan.takeNumber(0, 9);
      scan.takeWord(PRICE);
      fair.price[k] = scan.takeNumber(0, LONGEST_SHADOW);
      scan.takeWord(SHUT);
      fair.shut[k] = scan.takeNumber(0, LATEST);
      fair.stalls++;
    }

    private void readCoin(Fair fair) {
      int k = fair.coins;
      if (!hasRoom(k, MOST_COINS)) {
        return;
      }
      scan.step();
      fair.coinName[k] = scan.takeName(fair);
      scan.takeWord(WIDTH);
      fair.width[k] = scan.takeNumber(0, 99);
      scan.takeWord(HOLE);
      fair.hole[k] = scan.takeNumber(0, 9);
      fair.coins++;
    }

    private void readCloud(Fair fair) {
      int k = fair.clouds;
      if (!hasRoom(k, MOST_TOLD_CLOUDS)) {
        return;
      }
      scan.step();
      fair.cloudFirst[k] = scan.takeNumber(0, LATEST);
      scan.takeWord(TO);
      fair.cloudLast[k] = scan.takeNumber(fair.cloudFirst[k], LATEST);
      fair.clouds++;
    }
  }

  /** Works code off, over the values that are laid out in it. */
  private static final class Reckoner {
    /** Six open brackets, with all that can wait ahead of each, need less than half of it. */
    private final int[] stack = new int[64];
    private int size = 0;
    int number = 0;
    int width = 0;
    int hole = 0;
    int turn = 0;
    int minute = 0;
    int length = 0;
    int price = 0;
    int here = NONE;
    int stalls = 0;
    final int[] lengths = new int[MOST_STALLS];
    final int[] pays = new int[MOST_STALLS];

    /** What the code comes to; a TEST that holds is 1, else 0. */
    int run(Code code) {
      size = 0;
      for (int k = 0; k < code.size && k < code.steps.length; k++) {
        int operation = code.steps[k] - Code.OPERATIONS;
        if (operation < 0) {
          push(code.steps[k]);
        } else if (isOfTwo(operation)) {
          int right = pop();
          push(ofTwo(operation, pop(), right));
        } else {
          push(ofOne(operation));
        }
      }
      return pop();
    }

    private void push(int value) {
      if (size < stack.length) {
        stack[size] = value;
        size++;
      }
    }

    private int pop() {
      if (size == 0) {
        return 0;
      }
      size--;
      return stack[size];
    }

    private static boolean isOfTwo(int operation) {
      return operation >= WORD_COUNT || operation == OR || operation == AND
          || operation == MIN || operation == MAX;
    }

    private int ofOne(int operation) {
      switch (operation) {
        case NUMBER: return number;
        case WIDTH: return width;
        case HOLE: return hole;
        case TURN: return turn;
        case MINUTE: return minute;
        case LONG: return length;
        case PRICE: return price;
        case HERE: return here;
        case ALL: return 1;
        case NOT: return 1 - pop();
        case SHADE: return ofStall(lengths, pop());
        case AT: return ofStall(pays, pop());
        default: return 0;
      }
    }

    private int ofStall(int[] row, int stall) {
      return stall >= 0 && stall < stalls && stall < row.length ? row[stall] : 0;
    }

    private static int ofTwo(int operation, int left, int right) {
      switch (operation) {
        case OR: return left | right;
        case AND: return left & right;
        case MIN: return left < right ? left : right;
        case MAX: return left > right ? left : right;
        case '<': return left < right ? 1 : 0;
        case '>': return left > right ? 1 : 0;
        case '=': return left == right ? 1 : 0;
        case '+': return within((long) left + right);
        case '-': return within((long) left - right);
        case '*': return within((long) left * right);
        case '/': return right == 0 ? 0 : Math.floorDiv(left, right);
        default: return 0;
      }
    }

    private static int within(long value) {
      if (value > FARTHEST) {
        return FARTHEST;
      }
      return value < -FARTHEST ? -FARTHEST : (int) value;
    }
  }

  /** Shadows, and what they pay for. Each is reckoned once a fair, when it is first asked for. */
  private static final class Light {
    private static final int UNKNOWN = -1;

    private Fair fair;
    /** Twice the length without clouds, and one more where it is enough and not refused. */
    private final int[] cells = new int[MOST_COINS * MOST_STALLS * (LATEST + 1)];
    /** 1 in a minute of a cloud, else 0. */
    private final int[] cloudy = new int[LATEST + 1];
    private final Reckoner reckoner = new Reckoner();

    Light(Fair fair) {
      this.fair = fair;
    }

    void begin(Fair toldNow) {
      fair = toldNow;
      Arrays.fill(cells, UNKNOWN);
    }

    void markClouds(Day day) {
      Arrays.fill(cloudy, 0);
      for (int k = 0; k < fair.clouds; k++) {
        for (int minute = fair.cloudFirst[k]; minute <= fair.cloudLast[k]; minute++) {
          cloudy[minute] = 1;
        }
      }
      for (int k = 0; k < day.clouds; k++) {
        cloudy[day.cloudMinute[k]] = 1;
      }
    }

    boolean isCloudy(int minute) {
      return minute >= 0 && minute <= LATEST && cloudy[minute] == 1;
    }

    int lengthAt(int coin, int stall, int minute) {
      return isCloudy(minute) ? 0 : cellAt(coin, stall, minute) >> 1;
    }

    boolean paysAt(int coin, int stall, int minute) {
      return minute < fair.shut[stall] && !isCloudy(minute) && (cellAt(coin, stall, minute) & 1) == 1;
    }

    private int cellAt(int coin, int stall, int minute) {
      int place = (coin * MOST_STALLS + stall) * (LATEST + 1) + minute;
      if (place < 0 || place >= cells.length) {
        return 0;
      }
      if (cells[place] != UNKNOWN) {
        return cells[place];
      }
      reckoner.width = fair.width[coin];
      reckoner.hole = fair.hole[coin];
      reckoner.turn = fair.turn[stall];
      reckoner.minute = minute;
      reckoner.price = fair.price[stall];
      int sum = fair.shade.size == 0 ? fair.width[coin] : reckoner.run(fair.shade);
      int length = Math.max(0, Math.min(LONGEST_SHADOW, sum));
      reckoner.length = length;
      boolean enough = length >= fair.price[stall];
      boolean refused = enough && fair.refuse.size > 0 && reckoner.run(fair.refuse) != 0;
      cells[place] = 2 * length + (enough && !refused ? 1 : 0);
      return cells[place];
    }
  }

  /** Where one is and when, what is bought, the clouds that came, and the acts that led there. */
  private static final class Day {
    static final int PLACE_BYTE = 2;
    static final int BOUGHT_BYTE = 3;
    static final int CLOUDS_BYTE = 4;

    int minute = 0;
    int place = 0;
    int bought = 0;
    /** The clouds that are more than told. */
    int clouds = 0;
    final int[] cloudMinute = new int[MOST_CLOUDS];
    int keptCount = 0;
    /** A ware is bought once, so that a row a stall is enough: the forty that are told never fill. */
    final int[] keptMinute = new int[MOST_STALLS];
    final int[] keptStall = new int[MOST_STALLS];
    final int[] keptCoin = new int[MOST_STALLS];
    /** What was ahead of the latest acts, in a ring; clouds and kept rows only grow, so counts do. */
    private final int[][] past = new int[MOST_UNDONE][5];
    private int nextPast = 0;
    int acts = 0;
    long drawn = 1;

    void begin() {
      minute = 0;
      place = 0;
      bought = 0;
      clouds = 0;
      forget();
    }

    private void forget() {
      keptCount = 0;
      acts = 0;
      nextPast = 0;
    }

    boolean hasBought(int stall) {
      return (bought >> stall & 1) == 1;
    }

    void remember() {
      int[] row = past[nextPast];
      row[0] = minute;
      row[1] = place;
      row[2] = bought;
      row[3] = clouds;
      row[4] = keptCount;
      nextPast = (nextPast + 1) % MOST_UNDONE;
      acts = Math.min(MOST_UNDONE, acts + 1);
    }

    void takeBack() {
      nextPast = (nextPast + MOST_UNDONE - 1) % MOST_UNDONE;
      acts--;
      int[] row = past[nextPast];
      minute = row[0];
      place = row[1];
      bought = row[2];
      clouds = row[3];
      keptCount = row[4];
    }

    void keep(int coin, int stall) {
      bought |= 1 << stall;
      if (keptCount < MOST_STALLS) {
        keptMinute[keptCount] = minute;
        keptStall[keptCount] = stall;
        keptCoin[keptCount] = coin;
        keptCount++;
      }
    }

    /** The draw is made ahead of the minute's going by: a cloud is for the minute that one is in still. */
    void waitByChance(Fair fair) {
      drawn = (1103515245L * drawn + 12345L) % (1L << 31);
      if (drawn / 64 % DRAW_OF < fair.gust && fair.clouds + clouds < MOST_CLOUDS) {
        cloudMinute[clouds] = minute;
        clouds++;
      }
      minute++;
    }

    static int imageLength(int clouds) {
      return CLOUDS_BYTE + 1 + 2 * clouds + 1;
    }

    void write(Tape picture) {
      picture.length = 0;
      picture.putTwo(minute);
      picture.put(place);
      picture.put(bought);
      picture.put(clouds);
      for (int k = 0; k < clouds; k++) {
        picture.putTwo(cloudMinute[k]);
      }
      picture.put(picture.check(picture.length));
    }

    /** The tape has been looked at: it is an image. */
    void read(Tape tape) {
      minute = tape.twoAt(0);
      place = tape.at(PLACE_BYTE);
      bought = tape.at(BOUGHT_BYTE);
      clouds = Math.min(MOST_CLOUDS, tape.at(CLOUDS_BYTE));
      for (int k = 0; k < clouds; k++) {
        cloudMinute[k] = tape.twoAt(CLOUDS_BYTE + 1 + 2 * k);
      }
      forget();
    }
  }

  /** The rows that were seen. */
  private static final class Seen {
    int rows = 0;
    private final int[] coin = new int[MOST_SEEN];
    private final int[] stall = new int[MOST_SEEN];
    private final int[] length = new int[MOST_SEEN];

    boolean isSuch(Tape tape, Fair fair) {
      if (tape.length == 0 || tape.length % BYTES_OF_SEEN != 0 || tape.length > MOST_SEEN * BYTES_OF_SEEN) {
        return false;
      }
      for (int at = 0; at < tape.length; at += BYTES_OF_SEEN) {
        if (tape.at(at) >= fair.coins || tape.at(at + 1) >= fair.stalls) {
          return false;
        }
      }
      return true;
    }

    void take(Tape tape) {
      rows = Math.min(MOST_SEEN, tape.length / BYTES_OF_SEEN);
      for (int k = 0; k < rows; k++) {
        coin[k] = tape.at(BYTES_OF_SEEN * k);
        stall[k] = tape.at(BYTES_OF_SEEN * k + 1);
        length[k] = tape.twoAt(BYTES_OF_SEEN * k + 2);
      }
    }

    /** The rows that are not so in a minute, as bits. */
    int wrongRows(Light light, int minute) {
      int wrong = 0;
      for (int k = 0; k < rows; k++) {
        if (light.lengthAt(coin[k], stall[k], minute) != length[k]) {
          wrong |= 1 << k;
        }
      }
      return wrong;
    }
  }

  /** Goes through all orders in which a coin can buy what is not bought yet. */
  private static final class Planner {
    private int stalls = 0;
    private int latest = 0;
    private final int[] placeOf = new int[MOST_STALLS];
    /** For each stall and minute the first minute from it on in which the coin buys there, or NONE. */
    private final int[][] soonest = new int[MOST_STALLS][LATEST + 1];
    /** 1 for each set of stalls that can all be bought at, one behind the other, else 0. */
    private final int[] reached = new int[1 << MOST_STALLS];
    private final int[] order = new int[MOST_STALLS];
    int wanted = 0;
    final int[] soonestOrder = new int[MOST_STALLS];
    /** When the last ware is bought by the best order; NONE if by no order all are. */
    int soonestEnd = NONE;

    void plan(Fair fair, Light light, Day day, int coin) {
      stalls = fair.stalls;
      latest = fair.minutes;
      wanted = 0;
      soonestEnd = NONE;
      Arrays.fill(reached, 0);
      for (int stall = 0; stall < stalls; stall++) {
        if (!day.hasBought(stall)) {
          wanted |= 1 << stall;
          placeOf[stall] = fair.place[stall];
          int next = NONE;
          for (int minute = latest; minute >= day.minute; minute--) {
            next = light.paysAt(coin, stall, minute) ? minute : next;
            soonest[stall][minute] = next;
          }
        }
      }
      visit(0, day.place, day.minute, 0);
    }

    /** Orders come first row first, so that only a sooner end replaces the best. */
    private void visit(int depth, int place, int minute, int done) {
      reached[done] = 1;
      if (done == wanted && (soonestEnd == NONE || minute < soonestEnd)) {
        soonestEnd = minute;
        System.arraycopy(order, 0, soonestOrder, 0, depth);
      }
      if (depth >= MOST_STALLS) {
        return;
      }
      for (int stall = 0; stall < stalls; stall++) {
        int left = wanted & ~done;
        int there = minute + Math.abs(placeOf[stall] - place);
        if ((left >> stall & 1) == 1 && there <= latest && soonest[stall][there] != NONE) {
          order[depth] = stall;
          visit(depth + 1, placeOf[stall], soonest[stall][there], done | 1 << stall);
        }
      }
    }

    int fewestLeftOut() {
      int fewest = wanted;
      for (int done = 0; done < reached.length; done++) {
        int out = wanted & ~done;
        int more = Integer.bitCount(out) - Integer.bitCount(fewest);
        if (reached[done] == 1 && (more < 0 || more == 0 && out < fewest)) {
          fewest = out;
        }
      }
      return fewest;
    }
  }
}
