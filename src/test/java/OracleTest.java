import java.util.ArrayList;
import java.util.List;
import java.util.Random;

/** Random fairs (several on an object), acts and questions, each answer held against the plain model: promises 4 to 34 together. */
public final class OracleTest {
  private static final Check check = new Check();

  public static void main(String[] args) {
    int runs = args.length > 0 ? Integer.parseInt(args[0]) : 1000;
    for (int run = 0; run < runs; run++) {
      new OracleTest(run).run();
    }
    check.finish();
  }

  private final int number;
  private final Random r;
  private Model m;
  private final ShadowCoins x = new ShadowCoins();
  /** An object is used for 512 calls; what it answers later is free. */
  private static final int MOST_CALLS = 512;
  private int calls = 0;

  private OracleTest(int number) {
    this.number = number;
    r = new Random(number);
    m = someFair();
  }

  private Model someFair() {
    Model model = new Model(r);
    while (model.text.length() > 1580) {
      model = new Model(r);
    }
    return model;
  }

  private void due(String call, long got, long want) {
    calls++;
    check.due("run " + number + ": " + call, got, want);
  }

  private void due(String call, boolean got, boolean want) {
    due(call, got ? 1 : 0, want ? 1 : 0);
  }

  /** Bytes on the tape take calls, too: two ends, and a feed for each twenty. */
  private void told(int bytes) {
    calls += 2 + (bytes + 19) / 20;
  }

  private void run() {
    begin();
    // no piece takes more calls than these, and no other fair more than 220
    while (calls <= MOST_CALLS - 150) {
      switch (r.nextInt(6)) {
        case 0 -> states();
        case 1 -> looks();
        case 2 -> plans();
        case 3 -> questions();
        case 4 -> seen();
        default -> act();
      }
      act();
      if (r.nextInt(16) == 0 && calls <= MOST_CALLS - 220) {
        anotherFair();
      }
    }
    check.due("calls of run " + number + ": " + calls, calls <= MOST_CALLS, true);
  }

  private void begin() {
    told(m.text.length());
    due("fair " + m.text, Check.fair(x, m.text), m.statements);
    due("fault", x.fault(0), 0);
  }

  /** Another fair takes the place of this one, but for the seed; a part of its text leaves all as it is. */
  private void anotherFair() {
    Model next = someFair();
    if (r.nextBoolean()) {
      next.seed = m.seed;
      m = next;
      begin();
      return;
    }
    String part = next.text.substring(0, r.nextInt(next.text.lastIndexOf(';')));
    boolean whole = part.strip().endsWith(";");
    if (!whole) {
      told(part.length());
      due("a part: " + part, Check.fair(x, part), ShadowCoins.NONE);
      due("its fault", x.fault(0) != 0, true);
      states();
    }
  }

  private void states() {
    int[] want = {m.minutes, m.stalls.size(), m.coins.size(), m.told.size() + m.clouds.size(), m.minute, m.place,
        Integer.bitCount(m.bought), m.cloudy(m.minute) ? 1 : 0, m.kept.size(), m.seen.size(), m.past.size()};
    for (int what = 0; what < want.length; what++) {
      due("has(" + what + ")", x.has(what), want[what]);
    }
    for (int s = 0; s < m.stalls.size(); s++) {
      for (int what = 0; what < 4; what++) {
        due("stall", x.stall(s, what), m.stalls.get(s)[what]);
      }
      due("bought", x.stall(s, 4), m.bought >> s & 1);
    }
    for (int c = 0; c < m.coins.size(); c++) {
      due("width", x.coin(c, 0), m.coins.get(c)[0]);
      due("hole", x.coin(c, 1), m.coins.get(c)[1]);
    }
    for (int k = 0; k < m.kept.size(); k++) {
      for (int what = 0; what < 3; what++) {
        due("kept", x.kept(k, what), m.kept.get(k)[what]);
      }
    }
    List<Integer> bytes = image();
    due("image", x.image(), bytes.size());
    for (int k = 0; k < bytes.size(); k++) {
      due("octet", x.octet(k), bytes.get(k));
    }
  }

  private List<Integer> image() {
    List<Integer> bytes = new ArrayList<>(List.of(m.minute / 256, m.minute % 256, m.place, m.bought, m.clouds.size()));
    for (int cloud : m.clouds) {
      bytes.add(cloud / 256);
      bytes.add(cloud % 256);
    }
    int c = 167;
    for (int b : bytes) {
      c = (3 * c + b) % 251;
    }
    bytes.add(c);
    return bytes;
  }

  private int some(int count) {
    return r.nextInt(count + 1) - (r.nextInt(20) == 0 ? 1 : 0);
  }

  private void looks() {
    for (int n = 0; n < 3; n++) {
      int c = some(m.coins.size());
      int s = some(m.stalls.size());
      int t = some(m.stalls.size());
      int minute = some(m.minutes + 1);
      boolean coin = c >= 0 && c < m.coins.size();
      boolean stall = s >= 0 && s < m.stalls.size();
      boolean other = t >= 0 && t < m.stalls.size();
      boolean time = minute >= 0 && minute <= m.minutes;
      due("shadow " + c + " " + s + " " + minute, x.shadow(c, s, minute), coin && stall && time ? m.shadow(c, s, minute) : -1);
      due("buys", x.buys(c, s, minute), !coin || !stall || !time ? -1 : m.buys(c, s, minute) ? 1 : 0);
      int first = -1;
      int last = -1;
      int odd = -1;
      for (int k = m.minutes; k >= m.minute && coin && stall; k--) {
        if (m.buys(c, s, k)) {
          first = k;
          last = last < 0 ? k : last;
          odd = other && s != t && !m.buys(c, t, k) ? k : odd;
        }
      }
      due("first", x.when(c, s, 0), first);
      due("last", x.when(c, s, 1), last);
      due("odd", x.odd(c, s, t), odd);
      due("handy", x.handy(minute), time ? handy(minute) : -1);
      due("bridge", x.bridge(s, minute), stall && time ? bridge(s, minute) : -1);
      if (stall) {
        change(s);
        chalked(s);
      }
    }
  }

  private int handy(int minute) {
    int best = -1;
    long most = -1;
    for (int c = 0; c < m.coins.size(); c++) {
      int coin = c;
      long n = java.util.stream.IntStream.range(0, m.stalls.size()).filter(s -> m.buys(coin, s, minute)).count();
      if (n > most) {
        most = n;
        best = c;
      }
    }
    return best;
  }

  private int bridge(int stall, int minute) {
    for (int size = 0; size <= m.coins.size(); size++) {
      for (int set = 0; set < 1 << m.coins.size(); set++) {
        int sum = 0;
        for (int c = 0; c < m.coins.size() && Integer.bitCount(set) == size; c++) {
          sum += (set >> c & 1) * m.shadow(c, stall, minute);
        }
        if (Integer.bitCount(set) == size && sum >= m.toll) {
          return set;
        }
      }
    }
    return -1;
  }

  private void change(int s) {
    int much = r.nextInt(12);
    int[] pair = {-1, -1};
    for (int a = m.coins.size() - 1; a >= 0; a--) {
      for (int b = m.coins.size() - 1; b >= 0; b--) {
        if (a != b && m.shadow(a, s, m.minute) == m.shadow(b, s, m.minute) + much) {
          pair = new int[] {a, b};
        }
      }
    }
    due("change first", x.change(s, much, 0), pair[0]);
    due("change second", x.change(s, much, 1), pair[1]);
  }

  private void chalked(int s) {
    int length = m.coins.isEmpty() || r.nextInt(5) == 0 ? r.nextInt(1000)
        : m.shadow(r.nextInt(m.coins.size()), s, r.nextInt(m.minutes + 1));
    int count = 0;
    int[] first = {-1, -1};
    for (int k = 0; k <= m.minutes; k++) {
      for (int c = 0; c < m.coins.size(); c++) {
        if (m.shadow(c, s, k) == length) {
          first = count == 0 ? new int[] {k, c} : first;
          count++;
        }
      }
    }
    due("chalked", x.chalked(s, length, 0), count);
    due("chalked minute", x.chalked(s, length, 1), first[0]);
    due("chalked coin", x.chalked(s, length, 2), first[1]);
  }

  private void plans() {
    if (m.coins.isEmpty()) {
      due("round without coins", x.round(0, -1), -1);
      return;
    }
    int c = r.nextInt(m.coins.size());
    int best = 0;
    int bestFirst = -1;
    for (int from = m.minute; from <= m.minutes; from++) {
      int length = 0;
      while (from + length <= m.minutes && buysNowhere(c, from + length)) {
        length++;
      }
      if (length > best) {
        best = length;
        bestFirst = from;
      }
    }
    due("strike", x.strike(c, 0), best);
    due("strike first", x.strike(c, 1), bestFirst);
    if (m.stalls.size() > 4 && r.nextInt(4) > 0) {
      return;
    }
    List<Integer> round = m.round(c, m.open());
    int stalls = Integer.bitCount(m.open());
    due("round", x.round(c, -1), round == null ? -1 : round.get(stalls));
    for (int k = 0; k <= stalls; k++) {
      due("round " + k, x.round(c, k), round == null || k == stalls ? -1 : round.get(k));
    }
    due("blocked", x.blocked(c), m.blocked(c));
  }

  private boolean buysNowhere(int c, int minute) {
    for (int s = 0; s < m.stalls.size(); s++) {
      if (m.buys(c, s, minute)) {
        return false;
      }
    }
    return true;
  }

  private void questions() {
    String word = List.of("first", "last", "often", "total", "most", "least").get(r.nextInt(6));
    boolean test = List.of("first", "last", "often").contains(word);
    Formula f = test ? Formula.test(r, Formula.QUESTION, 6) : Formula.sum(r, Formula.QUESTION, 6);
    List<String> words = new ArrayList<>(List.of(word));
    f.write(words);
    String text = Model.joined(r, words);
    if (text.length() <= 1580) {
      told(text.length());
      due(text, Check.ask(x, text), m.ask(word, f));
    }
  }

  private void seen() {
    if (m.coins.isEmpty() || m.stalls.isEmpty()) {
      return;
    }
    if (r.nextBoolean()) {
      int minute = r.nextInt(m.minutes + 1);
      List<int[]> rows = new ArrayList<>();
      int[] bytes = new int[4 * (1 + r.nextInt(5))];
      for (int k = 0; k < bytes.length; k += 4) {
        int c = r.nextInt(m.coins.size());
        int s = r.nextInt(m.stalls.size());
        int length = m.shadow(c, s, r.nextInt(4) == 0 ? r.nextInt(m.minutes + 1) : minute);
        rows.add(new int[] {c, s, length});
        bytes[k] = c;
        bytes[k + 1] = s;
        bytes[k + 2] = length / 256;
        bytes[k + 3] = length % 256;
      }
      told(bytes.length);
      due("see", Check.see(x, bytes), rows.size());
      m.seen = rows;
    }
    int count = 0;
    int first = -1;
    int last = -1;
    int lamps = -1;
    int lampMinute = -1;
    for (int k = 0; k <= m.minutes; k++) {
      int wrong = 0;
      for (int row = 0; row < m.seen.size(); row++) {
        int[] one = m.seen.get(row);
        wrong |= m.shadow(one[0], one[1], k) == one[2] ? 0 : 1 << row;
      }
      if (wrong == 0) {
        count++;
        first = first < 0 ? k : first;
        last = k;
      }
      if (lampMinute < 0 || Integer.bitCount(wrong) < Integer.bitCount(lamps)) {
        lamps = wrong;
        lampMinute = k;
      }
    }
    due("minutes", x.minutes(0), count);
    due("minutes first", x.minutes(1), first);
    due("minutes last", x.minutes(2), last);
    due("lamps", x.lamps(0), Integer.bitCount(lamps));
    due("lamps rows", x.lamps(1), lamps);
    due("lamps minute", x.lamps(2), lampMinute);
  }

  private void act() {
    int n = r.nextInt(6);
    switch (r.nextInt(7)) {
      case 0 -> {
        boolean can = n > 0 && m.minute + n <= m.minutes;
        if (can) {
          m.act();
          m.minute += n;
        }
        due("pause", x.pause(n), can);
      }
      case 1 -> {
        boolean can = n > 0 && m.minute + n <= m.minutes;
        if (can) {
          m.act();
        }
        due("chance", x.chance(n), can ? m.chance(n) : -1);
      }
      case 2 -> {
        boolean can = !m.past.isEmpty();
        if (can) {
          m.undo();
        }
        due("undo", x.undo(), can);
      }
      case 3 -> {
        m.seed = r.nextInt(Integer.MAX_VALUE);
        due("seed", x.seed((int) m.seed), true);
      }
      case 4 -> walk(n);
      case 5 -> {
        walk(n);
        for (int c = 0; c < m.coins.size() && n < m.stalls.size(); c++) {
          buy(c, n);
        }
      }
      default -> image0();
    }
  }

  private void walk(int s) {
    int way = s < m.stalls.size() ? Math.abs(m.stalls.get(s)[0] - m.place) : 0;
    boolean can = way > 0 && m.minute + way <= m.minutes;
    if (can) {
      m.act();
      m.minute += way;
      m.place = m.stalls.get(s)[0];
    }
    due("walk", x.walk(s), can ? m.minute : -1);
  }

  private void buy(int c, int s) {
    boolean can = m.stalls.get(s)[0] == m.place && (m.bought >> s & 1) == 0 && m.buys(c, s, m.minute);
    if (can) {
      m.act();
      m.bought |= 1 << s;
      m.kept.add(new int[] {m.minute, s, c});
    }
    due("buy", x.buy(c, s), can);
  }

  /** One goes on from an image, sometimes with a bit of it turned over. */
  private void image0() {
    List<Integer> bytes = image();
    int[] all = bytes.stream().mapToInt(b -> b).toArray();
    boolean spoilt = r.nextInt(3) == 0;
    if (spoilt) {
      all[all.length - 1] ^= 1;
    } else {
      m.past.clear();
      m.kept = new ArrayList<>();
    }
    told(all.length);
    due("on", Check.on(x, all), !spoilt);
  }
}
