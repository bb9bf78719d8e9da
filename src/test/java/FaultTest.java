import java.util.ArrayList;
import java.util.List;
import java.util.Random;

/** Random texts, spoilt here and there: each fault, and its place, is held against the plain grammar (promises 4, 5, 31). */
public final class FaultTest {
  private static final Check check = new Check();
  private static final String[] PIECES = ("fair stall at turn price shut coin width hole cloud to shade refuse bridge gust long minute "
      + "number here or and not all min max first last often total most least x abcdef abcdefg 0 1 9 10 99 100 400 401 999 1000 9999 "
      + "10000 00000 ( ) [ ] + - * / < > = , ; ? ( ( [ [ not not shade at sx cx sysy cycy sx cx").split(" ");

  public static void main(String[] args) {
    int runs = args.length > 0 ? Integer.parseInt(args[0]) : 60000;
    int[] kinds = new int[6];
    for (int run = 0; run < runs; run++) {
      Random r = new Random(run);
      if (run % 3 == 0) {
        kinds[question(r)]++;
      } else {
        kinds[fair(r)]++;
      }
    }
    for (int kind = 0; kind < 6; kind++) {
      check.due("some texts have fault " + kind, kinds[kind] > 0, true);
    }
    check.finish();
  }

  private static int fair(Random r) {
    String text = new Model(r).text;
    if (r.nextInt(4) == 0) {
      text = text + many(r);
    }
    text = spoilt(r, text);
    ShadowCoins x = new ShadowCoins();
    try {
      int statements = FaultModel.fair(text);
      check.due(text, Check.fair(x, text), statements);
      return due(x, text, 0, -1);
    } catch (FaultModel.Fault fault) {
      check.due(text, Check.fair(x, text), -1);
      return due(x, text, fault.kind, fault.place);
    }
  }

  /** Some statements of one kind, maybe too many of them. */
  private static String many(Random r) {
    StringBuilder all = new StringBuilder();
    int kind = r.nextInt(4);
    for (int k = r.nextInt(kind == 3 ? 90 : 10); k > 0; k--) {
      String name = "q" + (char) ('a' + k % 26) + (char) ('a' + k / 26);
      all.append(switch (kind) {
        case 0 -> "stall " + name + " at 1 turn 1 price 1 shut 1;";
        case 1 -> "coin " + name + " width 1 hole 1;";
        case 2 -> "cloud 1 to 2;";
        default -> "gust 1;";
      });
    }
    return all.toString();
  }

  private static int question(Random r) {
    String word = List.of("first", "last", "often", "total", "most", "least").get(r.nextInt(6));
    boolean test = List.of("first", "last", "often").contains(word);
    Formula f = test ? Formula.test(r, Formula.QUESTION, 6) : Formula.sum(r, Formula.QUESTION, 6);
    List<String> words = new ArrayList<>(List.of(word));
    f.write(words);
    String text = spoilt(r, Model.joined(r, words));
    ShadowCoins x = Check.at("fair 10;");
    try {
      FaultModel.question(text);
      check.due(text, Check.ask(x, text) != ShadowCoins.NOTHING, true);
      return due(x, text, 0, -1);
    } catch (FaultModel.Fault fault) {
      check.due(text, Check.ask(x, text), ShadowCoins.NOTHING);
      return due(x, text, fault.kind, fault.place);
    }
  }

  private static int due(ShadowCoins x, String text, int kind, int place) {
    check.due("fault(0) of " + text, x.fault(0), kind);
    check.due("fault(1) of " + text, x.fault(1), place);
    return kind;
  }

  /** A text with some of its bytes or pieces changed, cut where the tape ends. */
  private static String spoilt(Random r, String text) {
    StringBuilder all = new StringBuilder(text);
    for (int n = r.nextInt(3); n > 0 && all.length() > 0; n--) {
      int at = r.nextInt(all.length());
      switch (r.nextInt(6)) {
        case 0 -> all.deleteCharAt(at);
        case 1 -> all.insert(at, PIECES[r.nextInt(PIECES.length)]);
        case 2 -> all.insert(at, " " + PIECES[r.nextInt(PIECES.length)] + " ");
        case 3 -> all.setCharAt(at, (char) r.nextInt(r.nextBoolean() ? 128 : 256));
        case 4 -> all.setLength(at);
        default -> swapWord(r, all, at);
      }
    }
    if (all.length() > 1600) {
      all.setLength(1600);
    }
    return all.toString();
  }

  /** Another piece for the word or number at a place. */
  private static void swapWord(Random r, StringBuilder all, int at) {
    int from = at;
    int to = at;
    while (from > 0 && Character.isLetterOrDigit(all.charAt(from - 1))) {
      from--;
    }
    while (to < all.length() && Character.isLetterOrDigit(all.charAt(to))) {
      to++;
    }
    all.replace(from, to, PIECES[r.nextInt(PIECES.length)]);
  }
}
