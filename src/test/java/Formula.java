import java.util.ArrayList;
import java.util.List;
import java.util.Map;
import java.util.Random;

/** A random TEST or SUM as a tree, with its text and, by another way than the class goes, its value. */
final class Formula {
  /** The values of words; shade and at are rows of all stalls. */
  interface Scene {
    int word(String name);

    int ofStall(String name, int stall);
  }

  private final String kind;
  private final List<Formula> parts = new ArrayList<>();
  private final List<String> signs = new ArrayList<>();
  private String word = "";

  private Formula(String kind) {
    this.kind = kind;
  }

  static final String[] SHADE = {"width", "hole", "turn", "minute"};
  static final String[] REFUSE = {"width", "hole", "turn", "minute", "long", "price"};
  static final String[] QUESTION = {"number", "width", "hole", "minute", "here", "shade", "at"};

  /** How many brackets may be opened yet is carried along, so that no text has fault 4. */
  static Formula test(Random r, String[] words, int room) {
    Formula f = new Formula("or");
    for (int n = few(r); n >= 0; n--) {
      Formula g = new Formula("and");
      for (int m = few(r); m >= 0; m--) {
        g.parts.add(fact(r, words, room));
      }
      f.parts.add(g);
    }
    return f;
  }

  private static int few(Random r) {
    return Math.max(0, r.nextInt(5) - 2);
  }

  private static Formula fact(Random r, String[] words, int room) {
    int pick = r.nextInt(8);
    if (pick == 0 && room > 0) {
      Formula f = new Formula("not");
      f.parts.add(fact(r, words, room - 1));
      return f;
    }
    if (pick == 1 && room > 0) {
      Formula f = new Formula("[");
      f.parts.add(test(r, words, room - 1));
      return f;
    }
    if (pick == 2) {
      return new Formula("all");
    }
    Formula f = new Formula("sign");
    f.parts.add(sum(r, words, room));
    f.parts.add(sum(r, words, room));
    f.word = "<>=".substring(pick % 3, pick % 3 + 1);
    return f;
  }

  static Formula sum(Random r, String[] words, int room) {
    Formula f = new Formula("row");
    for (int n = few(r); n >= 0; n--) {
      Formula g = new Formula("row");
      for (int m = few(r); m >= 0; m--) {
        g.parts.add(part(r, words, room));
        g.signs.add(r.nextInt(3) > 0 ? "*" : "/");
      }
      f.parts.add(g);
      f.signs.add(r.nextBoolean() ? "+" : "-");
    }
    return f;
  }

  private static Formula part(Random r, String[] words, int room) {
    int pick = r.nextInt(10);
    if (pick == 0 && room > 0) {
      Formula f = new Formula("(");
      f.parts.add(sum(r, words, room - 1));
      return f;
    }
    if (pick == 1 && room > 0) {
      Formula f = new Formula("two");
      f.word = r.nextBoolean() ? "min" : "max";
      f.parts.add(sum(r, words, room - 1));
      f.parts.add(sum(r, words, room - 1));
      return f;
    }
    if (pick < 5) {
      Formula f = new Formula("number");
      int digits = 1 + r.nextInt(r.nextInt(4) == 0 ? 4 : 2);
      for (int k = 0; k < digits; k++) {
        f.word += r.nextInt(10);
      }
      return f;
    }
    Formula f = new Formula("word");
    f.word = words[r.nextInt(words.length)];
    if (f.word.equals("shade") || f.word.equals("at")) {
      if (room == 0) {
        f.word = "width";
      } else {
        f.parts.add(part(r, words, room - 1));
      }
    }
    return f;
  }

  /** The text, as a row of words, numbers and signs. */
  void write(List<String> text) {
    switch (kind) {
      case "or", "and" -> {
        for (int k = 0; k < parts.size(); k++) {
          if (k > 0) {
            text.add(kind);
          }
          parts.get(k).write(text);
        }
      }
      case "row" -> {
        for (int k = 0; k < parts.size(); k++) {
          if (k > 0) {
            text.add(signs.get(k));
          }
          parts.get(k).write(text);
        }
      }
      case "not" -> {
        text.add("not");
        parts.get(0).write(text);
      }
      case "all" -> text.add("all");
      case "[", "(" -> {
        text.add(kind);
        parts.get(0).write(text);
        text.add(kind.equals("[") ? "]" : ")");
      }
      case "sign" -> {
        parts.get(0).write(text);
        text.add(word);
        parts.get(1).write(text);
      }
      case "two" -> {
        text.addAll(List.of(word, "("));
        parts.get(0).write(text);
        text.add(",");
        parts.get(1).write(text);
        text.add(")");
      }
      default -> {
        text.add(word);
        if (!parts.isEmpty()) {
          parts.get(0).write(text);
        }
      }
    }
  }

  boolean holds(Scene s) {
    switch (kind) {
      case "or":
        return parts.stream().anyMatch(f -> f.holds(s));
      case "and":
        return parts.stream().allMatch(f -> f.holds(s));
      case "not":
        return !parts.get(0).holds(s);
      case "[":
        return parts.get(0).holds(s);
      case "all":
        return true;
      default:
        int c = Integer.compare(parts.get(0).value(s), parts.get(1).value(s));
        return Map.of("<", -1, ">", 1, "=", 0).get(word) == c;
    }
  }

  int value(Scene s) {
    switch (kind) {
      case "row":
        int v = parts.get(0).value(s);
        for (int k = 1; k < parts.size(); k++) {
          v = apply(signs.get(k), v, parts.get(k).value(s));
        }
        return v;
      case "(":
        return parts.get(0).value(s);
      case "two":
        int a = parts.get(0).value(s);
        int b = parts.get(1).value(s);
        return word.equals("min") == a < b ? a : b;
      case "number":
        return Integer.parseInt(word);
      default:
        return parts.isEmpty() ? s.word(word) : s.ofStall(word, parts.get(0).value(s));
    }
  }

  private static int apply(String sign, long a, long b) {
    long v;
    if (sign.equals("/")) {
      v = b == 0 ? 0 : (long) Math.floor((double) a / b);
    } else {
      v = sign.equals("+") ? a + b : sign.equals("-") ? a - b : a * b;
    }
    return (int) Math.max(-1000000, Math.min(1000000, v));
  }
}
