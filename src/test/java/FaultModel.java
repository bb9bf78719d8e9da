import java.util.ArrayList;
import java.util.HashSet;
import java.util.List;
import java.util.Set;

/** The grammar of fairs and questions over a list of tokens, left by an exception at the first fault. */
final class FaultModel {
  static final class Fault extends Exception {
    private static final long serialVersionUID = 1;
    final int kind;
    final int place;

    Fault(int kind, int place) {
      this.kind = kind;
      this.place = place;
    }
  }

  /** A word, a number, a sign, or the text's end (with no letters at all). */
  private record Token(String text, int start, boolean joined) {
    boolean isWord() {
      return !text.isEmpty() && text.charAt(0) >= 'a' && text.charAt(0) <= 'z';
    }

    boolean isNumber() {
      return !text.isEmpty() && text.charAt(0) >= '0' && text.charAt(0) <= '9';
    }
  }

  private static final Set<String> OWN = Set.of(("fair stall at turn price shut coin width hole cloud to shade refuse bridge gust "
      + "long minute number here or and not all min max").split(" "));
  private static final Set<String> IN_SHADE = Set.of("width", "hole", "turn", "minute");
  private static final Set<String> IN_REFUSE = Set.of("width", "hole", "turn", "minute", "long", "price");
  private static final Set<String> IN_QUESTION = Set.of("number", "width", "hole", "minute", "here");

  private final List<Token> tokens = new ArrayList<>();
  private int next = 0;
  private int open = 0;
  private Set<String> values = IN_SHADE;
  private final Set<String> names = new HashSet<>();
  private final int[] counts = new int[5];

  private FaultModel(String text) {
    int at = 0;
    int behind = -1;
    while (at < text.length()) {
      int from = at;
      int sort = sort(text.charAt(at));
      at++;
      while (at < text.length() && sort < 2 && sort(text.charAt(at)) == sort) {
        at++;
      }
      if (sort < 3) {
        tokens.add(new Token(text.substring(from, at), from, sort < 2 && behind == from));
        behind = sort < 2 ? at : -1;
      }
    }
    tokens.add(new Token("", text.length(), false));
  }

  private static int sort(char c) {
    if (c >= 'a' && c <= 'z') {
      return 0;
    }
    if (c >= '0' && c <= '9') {
      return 1;
    }
    return c == ' ' || c == '\n' ? 3 : 2;
  }

  /** How many statements a fair has. */
  static int fair(String text) throws Fault {
    FaultModel m = new FaultModel(text);
    int statements = 0;
    do {
      if (statements == 80) {
        throw new Fault(5, m.peek().start);
      }
      m.statement(statements == 0);
      m.take(";");
      statements++;
    } while (!m.peek().text.isEmpty());
    return statements;
  }

  static void question(String text) throws Fault {
    FaultModel m = new FaultModel(text);
    m.values = IN_QUESTION;
    String word = m.peek().text;
    if (Set.of("first", "last", "often").contains(word)) {
      m.next++;
      m.test();
    } else if (Set.of("total", "most", "least").contains(word)) {
      m.next++;
      m.sum();
    } else {
      throw m.stop();
    }
    if (!m.peek().text.isEmpty()) {
      throw m.stop();
    }
  }

  private Token peek() {
    return tokens.get(next);
  }

  private Fault stop() {
    return new Fault(1, peek().start);
  }

  private boolean sees(String... texts) {
    return !peek().joined && List.of(texts).contains(peek().text);
  }

  private void take(String text) throws Fault {
    if (!sees(text)) {
      throw stop();
    }
    next++;
  }

  private int number(int least, int greatest) throws Fault {
    Token t = peek();
    if (!t.isNumber() || t.joined) {
      throw stop();
    }
    if (t.text.length() > 4) {
      throw new Fault(1, t.start + 4);
    }
    int value = Integer.parseInt(t.text);
    if (value < least || value > greatest) {
      throw new Fault(2, t.start);
    }
    next++;
    return value;
  }

  private void name() throws Fault {
    Token t = peek();
    if (!t.isWord() || t.joined || OWN.contains(t.text)) {
      throw stop();
    }
    if (t.text.length() > 6) {
      throw new Fault(1, t.start + 6);
    }
    if (!names.add(t.text)) {
      throw new Fault(3, t.start);
    }
    next++;
  }

  private void count(int kind, int most) throws Fault {
    if (counts[kind]++ == most) {
      throw new Fault(5, peek().start);
    }
    next++;
  }

  private void statement(boolean first) throws Fault {
    if (peek().joined || first != peek().text.equals("fair")) {
      throw stop();
    }
    switch (peek().text) {
      case "fair" -> {
        next++;
        number(10, 400);
      }
      case "stall" -> {
        count(0, 6);
        name();
        pairs("at", 99, "turn", 9, "price", 999, "shut", 400);
      }
      case "coin" -> {
        count(1, 8);
        name();
        pairs("width", 99, "hole", 9);
      }
      case "cloud" -> {
        count(2, 8);
        int from = number(0, 400);
        take("to");
        number(from, 400);
      }
      case "shade" -> {
        count(3, 1);
        values = IN_SHADE;
        sum();
      }
      case "refuse" -> {
        count(4, 1);
        values = IN_REFUSE;
        test();
      }
      case "bridge" -> {
        next++;
        number(0, 9999);
      }
      case "gust" -> {
        next++;
        number(0, 100);
      }
      default -> throw stop();
    }
  }

  private void pairs(Object... all) throws Fault {
    for (int k = 0; k < all.length; k += 2) {
      take((String) all[k]);
      number(0, (Integer) all[k + 1]);
    }
  }

  private void open() throws Fault {
    if (++open > 6) {
      throw new Fault(4, peek().start);
    }
    next++;
  }

  private void test() throws Fault {
    fact();
    while (sees("or", "and")) {
      next++;
      fact();
    }
  }

  private void fact() throws Fault {
    if (sees("not")) {
      open();
      fact();
      open--;
    } else if (sees("[")) {
      open();
      test();
      take("]");
      open--;
    } else if (sees("all")) {
      next++;
    } else {
      sum();
      if (!sees("<", ">", "=")) {
        throw stop();
      }
      next++;
      sum();
    }
  }

  private void sum() throws Fault {
    part();
    while (sees("+", "-", "*", "/")) {
      next++;
      part();
    }
  }

  private void part() throws Fault {
    if (peek().joined) {
      throw stop();
    }
    if (peek().isNumber()) {
      number(0, 9999);
    } else if (sees("(")) {
      open();
      sum();
      take(")");
      open--;
    } else if (sees("min", "max")) {
      next++;
      if (!sees("(")) {
        throw stop();
      }
      open();
      sum();
      take(",");
      sum();
      take(")");
      open--;
    } else if (values == IN_QUESTION && sees("shade", "at")) {
      open();
      part();
      open--;
    } else if (values.contains(peek().text)) {
      next++;
    } else {
      throw stop();
    }
  }
}
