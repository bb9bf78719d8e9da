import java.util.ArrayList;
import java.util.List;
import java.util.Random;

/** A random fair, held and reckoned in the plainest way, to hold the class against. */
final class Model {
  final int minutes;
  final List<int[]> stalls = new ArrayList<>();
  final List<int[]> coins = new ArrayList<>();
  final List<int[]> told = new ArrayList<>();
  Formula shade;
  Formula refuse;
  int toll = 0;
  int gust = 0;
  int statements = 1;
  final String text;

  int minute = 0;
  int place = 0;
  int bought = 0;
  List<Integer> clouds = new ArrayList<>();
  List<int[]> kept = new ArrayList<>();
  final List<Model.State> past = new ArrayList<>();
  List<int[]> seen = new ArrayList<>();
  long seed = 1;

  record State(int minute, int place, int bought, List<Integer> clouds, List<int[]> kept) {}

  Model(Random r) {
    List<String> words = new ArrayList<>();
    minutes = 10 + r.nextInt(r.nextInt(5) == 0 ? 391 : 50);
    say(words, "fair", minutes);
    List<Runnable> more = new ArrayList<>();
    for (int n = r.nextInt(7); n > 0; n--) {
      more.add(() -> stall(r, words));
    }
    for (int n = r.nextInt(9); n > 0; n--) {
      more.add(() -> coin(r, words));
    }
    for (int n = r.nextInt(4); n > 0; n--) {
      more.add(() -> cloud(r, words));
    }
    if (r.nextInt(5) > 0) {
      more.add(() -> {
        shade = Formula.sum(r, Formula.SHADE, 4);
        words.add("shade");
        shade.write(words);
      });
    }
    if (r.nextInt(3) > 0) {
      more.add(() -> {
        refuse = Formula.test(r, Formula.REFUSE, 4);
        words.add("refuse");
        refuse.write(words);
      });
    }
    for (int n = r.nextInt(3); n > 0; n--) {
      more.add(() -> say(words, "bridge", toll = r.nextInt(r.nextInt(3) == 0 ? 10000 : 200)));
      more.add(() -> say(words, "gust", gust = r.nextInt(101)));
    }
    java.util.Collections.shuffle(more, r);
    words.add(";");
    for (Runnable one : more) {
      one.run();
      words.add(";");
      statements++;
    }
    text = joined(r, words);
  }

  private static void say(List<String> words, Object... all) {
    for (Object one : all) {
      words.add(one.toString());
    }
  }

  private static String name(String letter, int k) {
    return (letter + "xyzabcdef".charAt(k)).repeat(1 + k % 3);
  }

  private void stall(Random r, List<String> words) {
    int[] s = {r.nextInt(r.nextInt(3) == 0 ? 100 : 12), r.nextInt(10), r.nextInt(r.nextInt(4) == 0 ? 1000 : 30),
        r.nextInt(r.nextBoolean() ? 401 : minutes + 5 > 400 ? 401 : minutes + 5)};
    say(words, "stall", name("s", stalls.size()), "at", s[0], "turn", s[1], "price", s[2], "shut", s[3]);
    stalls.add(s);
  }

  private void coin(Random r, List<String> words) {
    int[] c = {r.nextInt(r.nextInt(4) == 0 ? 100 : 20), r.nextInt(10)};
    say(words, "coin", name("c", coins.size()), "width", c[0], "hole", c[1]);
    coins.add(c);
  }

  private void cloud(Random r, List<String> words) {
    int from = r.nextInt(r.nextInt(4) == 0 ? 401 : minutes + 1);
    int to = Math.min(400, from + r.nextInt(10));
    say(words, "cloud", from, "to", to);
    told.add(new int[] {from, to});
  }

  /** With blanks where they must be, and some where one likes. */
  static String joined(Random r, List<String> words) {
    StringBuilder all = new StringBuilder();
    boolean before = false;
    for (String word : words) {
      boolean wordly = Character.isLetterOrDigit(word.charAt(0));
      if (before && wordly || r.nextInt(12) == 0) {
        all.append(r.nextInt(6) == 0 ? '\n' : ' ');
      }
      all.append(word);
      before = wordly;
    }
    return all.toString();
  }

  boolean cloudy(int m) {
    return clouds.contains(m) || told.stream().anyMatch(c -> c[0] <= m && m <= c[1]);
  }

  private Formula.Scene scene(int coin, int stall, int m, int length) {
    return new Formula.Scene() {
      @Override
      public int word(String name) {
        return switch (name) {
          case "width" -> coins.get(coin)[0];
          case "hole" -> coins.get(coin)[1];
          case "turn" -> stalls.get(stall)[1];
          case "minute" -> m;
          case "long" -> length;
          case "price" -> stalls.get(stall)[2];
          case "number" -> coin;
          case "here" -> here(coin);
          default -> throw new IllegalStateException(name);
        };
      }

      @Override
      public int ofStall(String name, int which) {
        if (which < 0 || which >= stalls.size()) {
          return 0;
        }
        return name.equals("shade") ? shadow(coin, which, minute) : buys(coin, which, minute) ? 1 : 0;
      }
    };
  }

  private int here(int coin) {
    for (int s = 0; s < stalls.size(); s++) {
      if (stalls.get(s)[0] == place) {
        return shadow(coin, s, minute);
      }
    }
    return -1;
  }

  int shadow(int coin, int stall, int m) {
    if (cloudy(m)) {
      return 0;
    }
    int v = shade == null ? coins.get(coin)[0] : shade.value(scene(coin, stall, m, 0));
    return Math.max(0, Math.min(999, v));
  }

  boolean buys(int coin, int stall, int m) {
    int length = shadow(coin, stall, m);
    return m < stalls.get(stall)[3] && m <= minutes && !cloudy(m) && length >= stalls.get(stall)[2]
        && (refuse == null || !refuse.holds(scene(coin, stall, m, length)));
  }

  void act() {
    past.add(new State(minute, place, bought, new ArrayList<>(clouds), new ArrayList<>(kept)));
    if (past.size() > 20) {
      past.remove(0);
    }
  }

  int chance(int n) {
    int before = clouds.size();
    for (int k = 0; k < n; k++) {
      seed = (1103515245L * seed + 12345L) % 2147483648L;
      if (seed / 64 % 100 < gust && clouds.size() + told.size() < 16) {
        clouds.add(minute);
      }
      minute++;
    }
    return clouds.size() - before;
  }

  void undo() {
    State s = past.remove(past.size() - 1);
    minute = s.minute;
    place = s.place;
    bought = s.bought;
    clouds = s.clouds;
    kept = s.kept;
  }

  /** The end of an order of stalls with a coin, or -1. */
  private int endOf(int coin, List<Integer> order) {
    int m = minute;
    int at = place;
    for (int s : order) {
      m += Math.abs(stalls.get(s)[0] - at);
      at = stalls.get(s)[0];
      while (m <= minutes && !buys(coin, s, m)) {
        m++;
      }
      if (m > minutes) {
        return -1;
      }
    }
    return m;
  }

  /** The best order of a set of stalls, first row first, its end behind it; null without one. */
  List<Integer> round(int coin, int set) {
    List<List<Integer>> orders = new ArrayList<>();
    orders(set, new ArrayList<>(), orders);
    List<Integer> best = null;
    for (List<Integer> order : orders) {
      int end = endOf(coin, order);
      if (end >= 0 && (best == null || end < best.get(best.size() - 1))) {
        best = new ArrayList<>(order);
        best.add(end);
      }
    }
    return best;
  }

  private void orders(int set, List<Integer> head, List<List<Integer>> all) {
    if (set == 0) {
      all.add(new ArrayList<>(head));
    }
    for (int s = 0; s < 6; s++) {
      if ((set >> s & 1) == 1) {
        head.add(s);
        orders(set & ~(1 << s), head, all);
        head.remove(head.size() - 1);
      }
    }
  }

  int open() {
    return (1 << stalls.size()) - 1 & ~bought;
  }

  int blocked(int coin) {
    int best = -1;
    for (int out = 0; out < 64; out++) {
      boolean fewer = best < 0 || Integer.bitCount(out) < Integer.bitCount(best);
      if ((out & ~open()) == 0 && fewer && round(coin, open() & ~out) != null) {
        best = out;
      }
    }
    return best;
  }

  long ask(String word, Formula f) {
    List<Long> values = new ArrayList<>();
    boolean test = List.of("first", "last", "often").contains(word);
    for (int c = 0; c < coins.size(); c++) {
      Formula.Scene s = scene(c, 0, minute, 0);
      if (!test) {
        values.add((long) f.value(s));
      } else if (f.holds(s)) {
        values.add((long) c);
      }
    }
    return switch (word) {
      case "first" -> values.isEmpty() ? -1 : values.get(0);
      case "last" -> values.isEmpty() ? -1 : values.get(values.size() - 1);
      case "often" -> values.size();
      case "total" -> values.stream().mapToLong(v -> v).sum();
      case "most" -> values.stream().mapToLong(v -> v).max().orElse(0);
      default -> values.stream().mapToLong(v -> v).min().orElse(0);
    };
  }
}
