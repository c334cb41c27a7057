import java.lang.reflect.Method;
import java.util.ArrayList;
import java.util.Arrays;
import java.util.List;
import java.util.function.Supplier;

/**
 * Each number that a call is told, by itself: one too small, one too large, far off, the first and the last that are told.
 * A refused call answers as told, is counted once, and changes nothing else.
 */
public final class Numbers {
  /** B: a BOARD that is there, I: an INSTRUMENT that is there, b: a BOARD or NONE, k: NONE or more. */
  private static final String[] CALLS = {
    "wet 0..4 0..4", "board 0..5 0..99 0..9 0..3", "make 0..5", "worm B 0..1", "type 0..127", "year 1..60", "cuts B I", "takes B",
    "dries B 1..9", "of B 0..5", "about I 0..2", "sounds B 0..3", "plays I 0..3", "then I 0..3 0..60", "waits B 0..3 1..60",
    "dry I 0..3 1..200", "tune I 0..3 0..200", "best 0..3 b", "together I 0..3", "heard 0..3 0..60", "note B 0..99 0..9 0..3 0..60",
    "mark I 0..200 0..4 0..4 0..3 0..400", "forget 0..2", "is B", "look B", "kinds I", "ask I", "bids I k", "weeps I 0..3 0..10",
    "generations 0..999999 0..60", "part 0..1", "image 0..1", "from 0..1", "status 0..2", "count 0..10"};
  private static final int LOW = Integer.MIN_VALUE, HIGH = Integer.MAX_VALUE;
  private static final Cases cases = new Cases("numbers");

  private final String scene;
  private final Supplier<HouseFiddles> made;
  private final int boards, instruments;

  private Numbers(String scene, Supplier<HouseFiddles> made) {
    this.scene = scene;
    this.made = made;
    boards = made.get().count(0);
    instruments = made.get().count(1);
  }

  private static long answer(HouseFiddles x, String name, int[] told) {
    try {
      for (Method m : HouseFiddles.class.getMethods()) {
        if (!m.getName().equals(name) || m.getParameterCount() != told.length || m.getDeclaringClass() != HouseFiddles.class) continue;
        Object[] p = new Object[told.length];
        for (int k = 0; k < p.length; k++) p[k] = told[k];
        return ((Number) m.invoke(x, p)).longValue();
      }
    } catch (ReflectiveOperationException e) {
      throw new IllegalStateException(name, e);
    }
    throw new IllegalStateException("no " + name);
  }

  private int[] range(String word) {
    switch (word) {
      case "B": return new int[] {0, boards - 1};
      case "I": return new int[] {0, instruments - 1};
      case "b": return new int[] {-1, boards - 1};
      case "k": return new int[] {-1, HIGH};
      default: return new int[] {Integer.parseInt(word.split("\\.\\.")[0]), Integer.parseInt(word.split("\\.\\.")[1])};
    }
  }

  private static long refusal(String name) { return name.equals("best") || name.equals("bids") ? -10 : name.equals("status") ? -1 : -2; }

  private void call(String line) {
    String[] words = line.split(" ");
    String name = words[0];
    int[] first = new int[words.length - 1], last = new int[words.length - 1];
    for (int k = 0; k < first.length; k++) { first[k] = range(words[k + 1])[0]; last[k] = range(words[k + 1])[1]; }
    boolean may = true;
    for (int k = 0; k < first.length; k++) may &= first[k] <= last[k];
    for (int k = 0; k < first.length; k++) {
      if (may) accept(name, first, k, first[k], "the first");
      if (may) accept(name, first, k, last[k], "the last");
      refuse(name, first, k, first[k] - 1, "one too small");
      refuse(name, first, k, LOW, "far too small");
      refuse(name, last, k, first[k] - 1, "one too small, the others at their last");
      if (last[k] == HIGH) continue;
      refuse(name, first, k, last[k] + 1, "one too large");
      refuse(name, first, k, HIGH, "far too large");
    }
    int[] none = new int[first.length];
    Arrays.fill(none, LOW);
    if (none.length > 1) refuse(name, none, 0, LOW, "all of them wrong count once");
  }

  private static String said(String name, int[] told) {
    List<String> words = new ArrayList<>();
    for (int v : told) words.add(String.valueOf(v));
    return name + "(" + String.join(", ", words) + ")";
  }

  private void accept(String name, int[] others, int k, int value, String which) {
    int[] told = others.clone();
    told[k] = value;
    cases.hold(scene + ": number " + k + " of " + name + " is as told: " + which, () -> {
      HouseFiddles x = made.get();
      int before = x.status(0);
      long got = answer(x, name, told);
      cases.same(said(name, told) + " is BAD", got == -2 || got == -10, false);
      cases.due("BAD behind " + said(name, told), x.status(0), before);
    });
  }

  private void refuse(String name, int[] others, int k, int value, String which) {
    int[] told = others.clone();
    told[k] = value;
    cases.hold(scene + ": number " + k + " of " + name + " is not as told: " + which, () -> {
      HouseFiddles x = made.get(), untouched = made.get();
      int bad = x.status(0), no = x.status(1), full = x.status(2);
      cases.due(said(name, told), answer(x, name, told), refusal(name));
      cases.same("STATUS", Scenes.refused(x), bad + 1 + " BAD, " + no + " NO, " + full + " FULL");
      cases.same("all else", Scenes.all(x), Scenes.all(untouched));
    });
  }

  public static void main(String[] args) {
    for (Numbers scene : new Numbers[] {new Numbers("nothing is there", HouseFiddles::new), new Numbers("some are there", Scenes::some),
      new Numbers("all is full", Scenes::full)}) for (String line : CALLS) scene.call(line);
    cases.end();
  }
}
