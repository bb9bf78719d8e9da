import java.io.IOException;
import java.lang.reflect.Constructor;
import java.lang.reflect.Field;
import java.lang.reflect.Method;
import java.lang.reflect.Modifier;
import java.nio.file.Files;
import java.nio.file.Path;
import java.util.Set;
import java.util.TreeSet;
import java.util.regex.Matcher;
import java.util.regex.Pattern;

/** The face, and what of LANGUAGE.md can be seen from the source. It runs where src stands. */
public final class LanguageTest {
  private static final Check check = new Check();

  private static final String FACE = "int feed(int,int,int,int,int);boolean end(int);int fair();int fault(int);int has(int);"
      + "int letter(int,int,int);int stall(int,int);int coin(int,int);int shadow(int,int,int);int buys(int,int,int);"
      + "int kept(int,int);int when(int,int,int);int round(int,int);int blocked(int);int strike(int,int);int handy(int);"
      + "int odd(int,int,int);int bridge(int,int);int change(int,int,int);int chalked(int,int,int);int see();int minutes(int);"
      + "int lamps(int);int walk(int);boolean pause(int);boolean buy(int,int);int chance(int);boolean undo();boolean seed(int);"
      + "long ask();int image();int octet(int);boolean on();int status(int)";

  public static void main(String[] args) throws IOException {
    face();
    source(Files.readString(Path.of("src/main/java/ShadowCoins.java")));
    check.finish();
  }

  private static void wrong(String what) {
    check.due(what, 1, 0);
  }

  private static void face() {
    Set<String> open = new TreeSet<>();
    Set<String> names = new TreeSet<>();
    for (Method m : ShadowCoins.class.getDeclaredMethods()) {
      if (Modifier.isPublic(m.getModifiers()) && !Modifier.isStatic(m.getModifiers())) {
        open.add(signature(m));
        names.add(m.getName());
      } else if (!Modifier.isPrivate(m.getModifiers())) {
        wrong("open method " + m);
      }
    }
    Set<String> want = new TreeSet<>(Set.of(FACE.split(";")));
    check.due("the face's methods", open.equals(want), true);
    for (Class<?> c : ShadowCoins.class.getDeclaredClasses()) {
      check.due("static class " + c, Modifier.isStatic(c.getModifiers()), true);
      check.due("closed class " + c, Modifier.isPublic(c.getModifiers()) || Modifier.isProtected(c.getModifiers()), false);
      for (Method m : c.getDeclaredMethods()) {
        check.due(m + " bears a name of the face", names.contains(m.getName()), false);
      }
      check.due("fields of " + c, fields(c) <= 22, true);
    }
    for (Method m : ShadowCoins.class.getDeclaredMethods()) {
      check.due(m + " bears a name of the face", Modifier.isPrivate(m.getModifiers()) && names.contains(m.getName()), false);
    }
    for (Field f : ShadowCoins.class.getDeclaredFields()) {
      boolean told = f.getName().equals("NONE") || f.getName().equals("NOTHING");
      int mod = f.getModifiers();
      check.due("field " + f, told ? Modifier.isPublic(mod) && Modifier.isStatic(mod) && Modifier.isFinal(mod) : Modifier.isPrivate(mod), true);
    }
    check.due("fields", fields(ShadowCoins.class) <= 22, true);
    check.due("classes", ShadowCoins.class.getDeclaredClasses().length < 13, true);
    check.due("final", Modifier.isFinal(ShadowCoins.class.getModifiers()), true);
    Constructor<?>[] makers = ShadowCoins.class.getDeclaredConstructors();
    check.due("constructors", makers.length, 1);
    check.due("public constructor", Modifier.isPublic(makers[0].getModifiers()), true);
    check.due("NONE", ShadowCoins.NONE, -1);
    check.due("NOTHING", ShadowCoins.NOTHING, -1000000000000000L);
  }

  private static int fields(Class<?> c) {
    int count = 0;
    for (Field f : c.getDeclaredFields()) {
      count += Modifier.isStatic(f.getModifiers()) ? 0 : 1;
      check.due("static and not final: " + f, Modifier.isStatic(f.getModifiers()) && !Modifier.isFinal(f.getModifiers()), false);
    }
    return count;
  }

  private static String signature(Method m) {
    StringBuilder s = new StringBuilder(m.getReturnType() + " " + m.getName() + "(");
    for (Class<?> p : m.getParameterTypes()) {
      s.append(s.charAt(s.length() - 1) == '(' ? "" : ",").append(p);
    }
    return s.append(")").toString();
  }

  private static void source(String text) {
    String bare = text.replaceAll("(?s)/\\*.*?\\*/", "").replaceAll("\"[^\"\n]*\"", "\"\"").replaceAll("//[^\n]*", "");
    for (String word : "throw throws try catch finally synchronized assert package protected native volatile float double instanceof var".split(" ")) {
      check.due("the word " + word, Pattern.compile("\\b" + word + "\\b").matcher(bare).find(), false);
    }
    for (String sign : new String[] {"->", "::", "\"\" +", "+ \"\"", "Object", "Exact", "System.out", "@"}) {
      check.due("the sign " + sign, bare.contains(sign), false);
    }
    Matcher imports = Pattern.compile("import ([^;]*);").matcher(bare);
    while (imports.find()) {
      check.due("import " + imports.group(1), imports.group(1).equals("java.util.Arrays"), true);
    }
    Matcher library = Pattern.compile("\\b(Math|Integer|Long|Arrays|System|WORDS)\\.(\\w+)").matcher(bare);
    while (library.find()) {
      check.due("library " + library.group(), Set.of("max", "min", "abs", "bitCount", "floorDiv", "fill", "arraycopy", "charAt").contains(library.group(2)), true);
    }
    Matcher made = Pattern.compile("\\n( +)[^\\n]*\\bnew ").matcher(bare);
    while (made.find()) {
      check.due("what is made in a field or a constructor:" + made.group(), made.group(1).length() <= 6, true);
    }
    methods(bare.split("\n"));
  }

  /** No method is longer than sixty lines or takes more than seven parameters. */
  private static void methods(String[] lines) {
    int from = 0;
    String closing = "";
    Pattern head = Pattern.compile("^( +)(?!.*\\b(class|new|else|return)\\b)[\\w ]+[ \\]]\\w+\\(([^)]*)\\) \\{$");
    for (int k = 0; k < lines.length; k++) {
      Matcher m = head.matcher(lines[k]);
      if (m.find() && m.group(1).length() <= 4) {
        from = k;
        closing = m.group(1) + "}";
        check.due("parameters of " + lines[k], m.group(3).split(",").length <= 7, true);
      }
      if (!closing.isEmpty() && lines[k].equals(closing)) {
        check.due("length of " + lines[from], k - from + 1 <= 60, true);
        closing = "";
      }
    }
  }
}
