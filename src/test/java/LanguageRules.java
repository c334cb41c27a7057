import java.io.IOException;
import java.lang.reflect.Constructor;
import java.lang.reflect.Field;
import java.lang.reflect.Method;
import java.lang.reflect.Modifier;
import java.nio.file.Files;
import java.nio.file.Path;
import java.util.ArrayList;
import java.util.Arrays;
import java.util.List;
import java.util.TreeSet;
import java.util.regex.Matcher;
import java.util.regex.Pattern;

/** What of LANGUAGE.md and of the public face can be seen from the source and from the compiled class. */
public final class LanguageRules {
  private static int wrong = 0;
  private static void must(boolean holds, String what) {
    if (!holds) { wrong++; System.out.println("language: " + what); }
  }

  private static final String FACE = "int town(), int wet(int, int), int board(int, int, int, int), int make(int), int worm(int, int), int type(int), "
      + "int clear(), int read(), int year(int), int cuts(int, int), int takes(int), int dries(int, int), int undo(), int of(int, int), "
      + "int about(int, int), int sounds(int, int), int plays(int, int), int then(int, int, int), int waits(int, int, int), "
      + "int dry(int, int, int), int tune(int, int, int), int best(int, int), int together(int, int), int orchestra(), int heard(int, int), "
      + "int whose(), int tells(), int note(int, int, int, int, int), int mark(int, int, int, int, int, int), int forget(int), int is(int), "
      + "int look(int), int kinds(int), int ask(int), int bids(int, int), int weeps(int, int, int), int generations(int, int), long part(int), "
      + "int image(int), int from(int), int status(int), int count(int), long digest()";

  private static void face() {
    TreeSet<String> made = new TreeSet<>(), due = new TreeSet<>(Arrays.asList(FACE.split(", (?=int [a-z]|long [a-z])")));
    TreeSet<String> names = new TreeSet<>();
    for (Method m : HouseFiddles.class.getDeclaredMethods()) {
      if (Modifier.isPublic(m.getModifiers())) {
        List<String> p = new ArrayList<>();
        for (Class<?> c : m.getParameterTypes()) p.add(c.getName());
        made.add(m.getReturnType().getName() + " " + m.getName() + "(" + String.join(", ", p) + ")");
        names.add(m.getName());
        must(!Modifier.isStatic(m.getModifiers()), m.getName() + " is static");
      }
    }
    must(made.equals(due), "the face is " + made);
    for (Method m : HouseFiddles.class.getDeclaredMethods()) {
      if (!Modifier.isPublic(m.getModifiers())) {
        must(Modifier.isPrivate(m.getModifiers()), m.getName() + " is not private");
        must(!names.contains(m.getName()), m.getName() + " is public and private");
      }
    }
    TreeSet<String> constants = new TreeSet<>();
    for (Field f : HouseFiddles.class.getDeclaredFields()) {
      if (Modifier.isPublic(f.getModifiers())) constants.add(f.getName());
      else must(Modifier.isPrivate(f.getModifiers()), f.getName() + " is not private");
    }
    must(constants.toString().equals("[BAD, FULL, NO, NONE]"), "constants are " + constants);
    for (Class<?> c : HouseFiddles.class.getDeclaredClasses()) {
      must(Modifier.isStatic(c.getModifiers()), c + " is not static");
      must(!Modifier.isPublic(c.getModifiers()) && !Modifier.isProtected(c.getModifiers()), c + " is public");
      for (Method m : c.getDeclaredMethods()) must(!names.contains(m.getName()), m + " bears the name of a public one");
      fields(c);
    }
    must(HouseFiddles.class.getDeclaredClasses().length <= 12, "too many classes");
    fields(HouseFiddles.class);
    Constructor<?>[] all = HouseFiddles.class.getDeclaredConstructors();
    must(all.length == 1 && Modifier.isPublic(all[0].getModifiers()) && all[0].getParameterCount() == 0, "constructors");
    must(Modifier.isFinal(HouseFiddles.class.getModifiers()) && Modifier.isPublic(HouseFiddles.class.getModifiers()), "public final class");
  }
  private static void fields(Class<?> c) {
    int own = 0;
    for (Field f : c.getDeclaredFields()) {
      if (Modifier.isStatic(f.getModifiers())) must(Modifier.isFinal(f.getModifiers()), f + " is not final"); else own++;
    }
    must(own <= 20, c + " has too many fields");
  }

  private static void source(String text) {
    String code = text.replaceAll("(?s)/\\*.*?\\*/", "").replaceAll("//[^\n]*", "");
    String bare = code.replaceAll("\"[^\"]*\"", "\"\"").replaceAll("'[^']+'", "0");
    for (String word : new String[] {"throw", "throws", "try", "catch", "finally", "synchronized", "assert", "import", "package", "volatile",
      "transient", "native", "strictfp", "interface", "Object", "hashCode", "toString", "getClass", "Exact", "nanoTime", "Thread", "Random",
      "static\\s*\\{", "->", "::", "double", "float", "var", "yield", "MAX_VALUE", "MIN_VALUE"}) {
      String pattern = Character.isLetter(word.charAt(0)) && word.indexOf('\\') < 0 ? "\\b" + word + "\\b" : word;
      must(!Pattern.compile(pattern).matcher(bare).find(), word + " stands in the source");
    }
    must(!Pattern.compile("\"\\s*\\+|\\+\\s*\"").matcher(bare).find(), "texts are joined by +");
    Matcher library = Pattern.compile("\\b(Math|Integer|Long|System|Arrays|String|Character)\\.(\\w+)").matcher(bare);
    List<String> allowed = Arrays.asList("Math.max", "Math.min", "Math.abs", "Integer.bitCount", "System.arraycopy");
    while (library.find()) must(allowed.contains(library.group()), library.group() + " stands in the source");
    for (char c : text.toCharArray()) must(c == '\n' || c >= 32 && c < 127, "a sign " + (int) c + " stands in the source");
    methods(bare);
  }
  /** No method is longer than sixty lines nor takes more than seven parameters. */
  private static void methods(String bare) {
    Matcher m = Pattern.compile("(?m)^( {4}| {8})(?:[\\w\\[\\]]+ )+?(\\w+)\\(([^)]*)\\) \\{$").matcher(bare);
    int found = 0;
    while (m.find()) {
      found++;
      int end = bare.indexOf("\n" + m.group(1) + "}", m.end());
      must(bare.substring(m.start(), end).split("\n").length < 60, m.group(2) + " is too long");
      must(m.group(3).isEmpty() || m.group(3).split(",").length <= 7, m.group(2) + " takes too much");
    }
    must(found > 100, "only " + found + " methods were found");
  }

  public static void main(String[] args) throws IOException {
    face();
    source(Files.readString(Path.of(args[0])));
    System.out.println("language: " + (wrong == 0 ? "all rules that are looked at are kept" : wrong + " faults"));
    if (wrong != 0) System.exit(1);
  }
}
