import java.io.IOException;
import java.lang.reflect.Method;
import java.lang.reflect.Modifier;
import java.nio.file.Files;
import java.nio.file.Path;
import java.util.HashMap;
import java.util.Map;
import java.util.TreeMap;
import java.util.TreeSet;
import java.util.regex.Matcher;
import java.util.regex.Pattern;
import java.util.stream.Stream;

/** README.md is true: its calls answer what stands behind them, it names each call, each test and each class, and .ci/run runs each test. */
public final class Readme {
  private static final Pattern CALL = Pattern.compile("(?:int (\\w+) = )?town\\.(\\w+)\\((.*)\\); +// (-?\\d+)\\b.*");
  private static final Pattern TYPING = Pattern.compile("for \\(char c : \"(.*)\"\\.toCharArray\\(\\)\\) town\\.type\\(c\\);");
  private static int looked, wrong;

  private static void must(boolean holds, String what) {
    looked++;
    if (!holds) { wrong++; System.out.println("readme: " + what); }
  }

  private final Map<String, Integer> names = new HashMap<>(Map.of("HouseFiddles.NONE", HouseFiddles.NONE));
  private HouseFiddles town;

  private int number(String told) {
    if (told.startsWith("'")) return told.charAt(1);
    return names.containsKey(told) ? names.get(told) : Integer.parseInt(told);
  }

  private void line(String line) throws ReflectiveOperationException {
    Matcher call = CALL.matcher(line), typing = TYPING.matcher(line);
    if (line.equals("HouseFiddles town = new HouseFiddles();")) { town = new HouseFiddles(); return; }
    if (typing.matches()) { for (char c : typing.group(1).toCharArray()) town.type(c); return; }
    if (!call.matches()) { must(false, "'" + line + "' is no call with its answer"); return; }
    String[] told = call.group(3).isEmpty() ? new String[0] : call.group(3).split(", ");
    Object[] numbers = new Object[told.length];
    Class<?>[] types = new Class<?>[told.length];
    for (int k = 0; k < told.length; k++) { numbers[k] = number(told[k]); types[k] = int.class; }
    long got = ((Number) HouseFiddles.class.getMethod(call.group(2), types).invoke(town, numbers)).longValue();
    must(got == Long.parseLong(call.group(4)), line + " answered " + got);
    if (call.group(1) != null) names.put(call.group(1), (int) got);
  }

  private void examples(String page) throws ReflectiveOperationException {
    Matcher blocks = Pattern.compile("(?s)```java\n(.*?)```").matcher(page);
    while (blocks.find()) for (String one : blocks.group(1).split("\n")) line(one);
    must(looked > 20, "only " + looked + " calls with an answer were found");
  }

  private static void calls(String page) {
    Map<String, Integer> named = new TreeMap<>(), made = new TreeMap<>();
    Matcher calls = Pattern.compile("`(\\w+)\\(([\\w, ]*)\\)`").matcher(page);
    while (calls.find()) named.put(calls.group(1), calls.group(2).isEmpty() ? 0 : calls.group(2).split(", ").length);
    for (Method m : HouseFiddles.class.getDeclaredMethods()) if (Modifier.isPublic(m.getModifiers())) made.put(m.getName(), m.getParameterCount());
    must(named.equals(made), "the calls are " + named + ", not " + made);
  }

  private static void tests(String page, String script, Path folder) throws IOException {
    TreeSet<String> mains = new TreeSet<>(), run = new TreeSet<>(), named = new TreeSet<>();
    try (Stream<Path> files = Files.list(folder)) {
      for (Path file : (Iterable<Path>) files::iterator)
        if (Files.readString(file).contains("public static void main")) mains.add(file.getFileName().toString().replace(".java", ""));
    }
    Matcher runs = Pattern.compile("(?m)^check \".*\" java -cp \"\\$out/own\" (\\w+)").matcher(script);
    while (runs.find()) run.add(runs.group(1));
    Matcher names = Pattern.compile("(?m)^- `(\\w+)`: ").matcher(page.substring(page.indexOf("## How to run its tests")));
    while (names.find()) named.add(names.group(1));
    must(run.equals(mains), ".ci/run runs " + run + ", the tests are " + mains);
    must(named.equals(mains), "the page names " + named + ", the tests are " + mains);
  }

  private static void classes(String page) {
    TreeSet<String> named = new TreeSet<>(), made = new TreeSet<>();
    String built = page.substring(page.indexOf("## How it is built"), page.indexOf("## How to run its tests"));
    Matcher names = Pattern.compile("`(\\w+)`").matcher(built);
    while (names.find()) named.add(names.group(1));
    made.add("HouseFiddles");
    for (Class<?> c : HouseFiddles.class.getDeclaredClasses()) made.add(c.getSimpleName());
    must(named.equals(made), "the page names the classes " + named + ", there are " + made);
  }

  public static void main(String[] args) throws IOException, ReflectiveOperationException {
    Path folder = Path.of(args[0]);
    String page = Files.readString(folder.resolve("README.md"));
    new Readme().examples(page);
    calls(page);
    tests(page, Files.readString(folder.resolve(".ci/run")), folder.resolve("src/test/java"));
    classes(page);
    System.out.println("readme: " + looked + " looked at, " + wrong + " not true");
    if (wrong != 0) System.exit(1);
  }
}
