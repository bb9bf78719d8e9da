import java.nio.charset.StandardCharsets;

/** What all tests share: telling texts and bytes to an object, and comparing answers. */
final class Check {
  private int wrong = 0;
  private int looked = 0;
  private String sentence = "";

  /** The sentence of the document that the next answers hold; told with each that is wrong. */
  void says(String words) {
    sentence = " (" + words + ")";
  }

  void due(String call, long got, long want) {
    looked++;
    if (got != want) {
      wrong++;
      System.out.println(call + " answered " + got + ", due is " + want + sentence);
    }
  }

  void due(String call, boolean got, boolean want) {
    due(call, got ? 1 : 0, want ? 1 : 0);
  }

  /** A fair's text with a fault of a kind at the mark #, which is taken out. */
  void badFair(String marked, int kind) {
    String text = marked.replace("#", "");
    ShadowCoins x = new ShadowCoins();
    due("fair() of " + text, fair(x, text), ShadowCoins.NONE);
    due("fault(0) of " + text, x.fault(0), kind);
    due("fault(1) of " + text, x.fault(1), marked.indexOf('#'));
  }

  /** A fair's text without a fault. */
  ShadowCoins goodFair(String text, int statements) {
    ShadowCoins x = new ShadowCoins();
    due("fair() of " + text, fair(x, text), statements);
    due("fault(0) of " + text, x.fault(0), 0);
    due("fault(1) of " + text, x.fault(1), ShadowCoins.NONE);
    return x;
  }

  /** A question with a fault of a kind at the mark #, which is taken out. */
  void badQuestion(ShadowCoins x, String marked, int kind) {
    String text = marked.replace("#", "");
    due("ask() of " + text, ask(x, text), ShadowCoins.NOTHING);
    due("fault(0) of " + text, x.fault(0), kind);
    due("fault(1) of " + text, x.fault(1), marked.indexOf('#'));
  }

  /** A question without a fault. */
  void answer(ShadowCoins x, String question, long want) {
    due("ask() of " + question, ask(x, question), want);
    due("fault(0) of " + question, x.fault(0), 0);
    due("fault(1) of " + question, x.fault(1), ShadowCoins.NONE);
  }

  /** Prints what came of it and ends the program with exit code 1 if an answer was wrong. */
  void finish() {
    System.out.println(wrong == 0 ? looked + " answers are as due" : wrong + " answers are not as due");
    if (wrong != 0) {
      System.exit(1);
    }
  }

  /** Puts bytes on an empty tape. */
  static void tell(ShadowCoins x, int... bytes) {
    x.end(0);
    for (int at = 0; at < bytes.length; at += 20) {
      x.feed(four(bytes, at), four(bytes, at + 4), four(bytes, at + 8), four(bytes, at + 12), four(bytes, at + 16));
    }
    x.end(bytes.length);
  }

  static void tell(ShadowCoins x, String text) {
    byte[] bytes = text.getBytes(StandardCharsets.ISO_8859_1);
    int[] numbers = new int[bytes.length];
    for (int k = 0; k < bytes.length; k++) {
      numbers[k] = bytes[k] & 255;
    }
    tell(x, numbers);
  }

  private static int four(int[] bytes, int at) {
    int number = 0;
    for (int k = at; k < at + 4; k++) {
      number = number << 8 | (k < bytes.length ? bytes[k] & 255 : 32);
    }
    return number;
  }

  static int fair(ShadowCoins x, String text) {
    tell(x, text);
    return x.fair();
  }

  static long ask(ShadowCoins x, String text) {
    tell(x, text);
    return x.ask();
  }

  static int see(ShadowCoins x, int... bytes) {
    tell(x, bytes);
    return x.see();
  }

  static boolean on(ShadowCoins x, int... bytes) {
    tell(x, bytes);
    return x.on();
  }

  static ShadowCoins at(String fair) {
    ShadowCoins x = new ShadowCoins();
    if (fair(x, fair) < 0) {
      throw new IllegalStateException("fault " + x.fault(0) + " at " + x.fault(1) + " in: " + fair);
    }
    return x;
  }

  /** The bytes of an image with the byte that ends it. */
  static int[] sealed(int... bytes) {
    int[] all = java.util.Arrays.copyOf(bytes, bytes.length + 1);
    int c = 167;
    for (int b : bytes) {
      c = (3 * c + b) % 251;
    }
    all[bytes.length] = c;
    return all;
  }
}
