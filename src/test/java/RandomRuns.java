import java.lang.reflect.Method;
import java.util.Arrays;
import java.util.HashMap;
import java.util.List;
import java.util.Map;

/** Long runs of calls, drawn by a fixed seed, on HouseFiddles and on the Oracle: each answer and each digest is the same. */
public final class RandomRuns {
  /** Of each call the numbers that it is told, from .. to. */
  private static final Map<String, int[]> RANGES = new HashMap<>();
  static {
    put("wet", 0, 4, 0, 4); put("board", 0, 5, 0, 99, 0, 9, 0, 3); put("make", 0, 5); put("worm", 0, 5, 0, 1);
    put("type", 0, 127); put("year", 1, 60); put("cuts", 0, 5, 0, 3); put("takes", 0, 5); put("dries", 0, 5, 1, 9);
    put("of", 0, 5, 0, 5); put("about", 0, 3, 0, 2); put("sounds", 0, 5, 0, 3); put("plays", 0, 3, 0, 3);
    put("then", 0, 3, 0, 3, 0, 60); put("waits", 0, 5, 0, 3, 1, 60); put("dry", 0, 3, 0, 3, 1, 200);
    put("tune", 0, 3, 0, 3, 0, 200); put("best", 0, 3, -1, 5); put("together", 0, 3, 0, 3); put("heard", 0, 3, 0, 60);
    put("note", 0, 5, 0, 99, 0, 9, 0, 3, 0, 60); put("mark", 0, 3, 0, 200, 0, 4, 0, 4, 0, 3, 0, 400);
    put("forget", 0, 2); put("is", 0, 5); put("look", 0, 5); put("kinds", 0, 3); put("ask", 0, 3);
    put("bids", 0, 3, -1, 9); put("weeps", 0, 3, 0, 3, 0, 10); put("generations", 0, 999999, 0, 60);
    put("part", 0, 1); put("image", 0, 1); put("from", 0, 1); put("status", 0, 2); put("count", 0, 10);
  }
  private static void put(String call, int... range) { RANGES.put(call, range); }

  private static final List<String> RARE = List.of("town", "clear", "read", "from");
  /** They leave nothing to undo, or nothing to ask about. */
  private static final List<String> FORGETTING = List.of("wet", "worm", "board", "make", "forget", "image");
  private static final List<String> OF_BOARDS = List.of("worm", "cuts", "takes", "dries", "of", "sounds", "waits", "note", "is", "look");
  private static final List<String> OF_INSTRUMENTS =
      List.of("about", "plays", "then", "dry", "tune", "together", "mark", "kinds", "ask", "bids", "weeps");

  private static final Map<String, Method> METHODS = new HashMap<>();
  static {
    for (Method m : HouseFiddles.class.getDeclaredMethods())
      if (java.lang.reflect.Modifier.isPublic(m.getModifiers())) METHODS.put(m.getName(), m);
  }

  private static long seed;
  private static int draw(int below) {
    seed = seed * 6364136223846793005L + 1442695040888963407L;
    return (int) ((seed >>> 33) % below);
  }
  private static int between(int from, int to) { return from + draw(to - from + 1); }

  private HouseFiddles made = new HouseFiddles();
  private final Oracle due = new Oracle();
  private final StringBuilder said = new StringBuilder();
  private int calls;
  private boolean wrong;

  private void call(String name, int... p) {
    if (calls >= 500 || wrong) return;
    calls++;
    long want = due.call(name, p);
    Object[] args = new Object[p.length];
    for (int k = 0; k < p.length; k++) args[k] = p[k];
    String got;
    try {
      got = String.valueOf(((Number) METHODS.get(name).invoke(made, args)).longValue());
    } catch (ReflectiveOperationException e) {
      got = String.valueOf(e.getCause());
    }
    said.append(name).append(Arrays.toString(p)).append(" -> ").append(want).append('\n');
    if (!got.equals(String.valueOf(want))) {
      wrong = true;
      System.out.println(said);
      System.out.println("the last one answered " + got);
    }
  }

  private int[] drawn(String name, int oddOnesIn) {
    int[] range = RANGES.getOrDefault(name, new int[0]);
    int[] p = new int[range.length / 2];
    for (int k = 0; k < p.length; k++) p[k] = between(range[2 * k], range[2 * k + 1]);
    if (draw(8) != 0) {
      int boards = due.now.boards.size(), instruments = due.now.kinds.size();
      if (OF_BOARDS.contains(name) && boards > 0) p[0] = draw(boards);
      if (OF_INSTRUMENTS.contains(name) && instruments > 0) p[0] = draw(instruments);
      if (name.equals("cuts") && instruments > 0) p[1] = draw(instruments);
      if (name.equals("best")) p[1] = draw(boards + 1) - 1;
    }
    if (p.length > 0 && draw(oddOnesIn) == 0) {
      int k = draw(p.length);
      int[] odd = {range[2 * k] - 1, range[2 * k + 1] + 1, -1, -2, Integer.MIN_VALUE, Integer.MAX_VALUE, range[2 * k], range[2 * k + 1]};
      p[k] = odd[draw(odd.length)];
    }
    return p;
  }

  /** Numbers that are so for a thing that is there, so that more than one is left over. */
  private int[] fitting(String name, int[] p) {
    int boards = due.now.boards.size();
    int instruments = due.now.kinds.size();
    if (name.equals("heard") && boards > 0 && Oracle.isS(p[0])) p[1] = Oracle.sound(due.now.boards.get(calls / 50 % boards), p[0]);
    if (name.equals("note")) p[4] = Math.min(60, Oracle.wood((p[0] & 7) * 2 % 5, Math.floorMod(p[3], 4), Math.floorMod(p[1], 100), p[2]));
    if (name.equals("mark")) p[5] = Oracle.music((p[0] + calls / 100 & 7) % 6, p[4], p[1], p[2], p[3]);
    if (name.equals("tune") && instruments > 0) {
      p[0] = draw(instruments);
      Oracle.State t = due.now.copy();
      for (Oracle.Wood w : t.boards) if (w.in == -1 && draw(2) == 0 && Oracle.manyIn(t, p[0]) < 4) w.in = p[0];
      if (Oracle.isS(p[1])) p[2] = Oracle.play(t, p[0], p[1]);
    }
    if (name.equals("dry") && instruments > 0) {
      p[0] = draw(instruments);
      if (Oracle.isS(p[1])) p[2] = Oracle.play(due.now, p[0], p[1]) + draw(20);
    }
    if (name.equals("waits") && boards > 0) {
      p[0] = draw(boards);
      if (Oracle.isS(p[1])) p[2] = Oracle.sound(due.now.boards.get(p[0]), p[1]) + draw(8);
    }
    if (name.equals("year") && draw(4) != 0) p[0] = between(1, 3);
    return p;
  }

  private void some(int oddOnesIn) {
    String name = Oracle.CALLS[draw(Oracle.CALLS.length)];
    if (RARE.contains(name) && draw(12) != 0) return;
    if (FORGETTING.contains(name) && draw(4) != 0) return;
    if (name.equals("board") && draw(2) == 0) name = "cuts";
    int[] p = drawn(name, oddOnesIn);
    if (draw(8) != 0) p = fitting(name, p);
    call(name, p);
    if (draw(4) == 0) call("digest");
  }

  private void build() {
    int boards = draw(3) == 0 ? draw(7) : 4 + draw(3), instruments = draw(4) == 0 ? draw(5) : 2 + draw(3);
    for (int b = 0; b < boards; b++) call("board", drawn("board", 100));
    for (int i = 0; i < instruments; i++) call("make", drawn("make", 100));
    for (int y = 0; y < 5; y++) if (draw(2) == 0) call("wet", y, draw(5));
    for (int k = draw(9); k > 0; k--) call("cuts", drawn("cuts", 100));
    if (draw(2) == 0) call("worm", drawn("worm", 100));
  }

  private String item(int which) {
    String gap = draw(6) == 0 ? "  " : " ";
    switch (which) {
      case 0: {
        StringBuilder s = new StringBuilder("wet");
        for (int y = draw(6); y >= 0; y--) s.append(gap).append(number(0, 4));
        return s.toString();
      }
      case 1: return "board" + gap + number(0, 5) + gap + number(0, 99) + gap + number(0, 9) + gap + number(0, 3);
      case 2: return "make" + (draw(9) == 0 ? "" : gap) + number(0, 5);
      case 3: return "cut" + gap + number(0, 5) + gap + number(0, 3);
      case 4: return "worm" + gap + number(0, 5);
      default: return "years" + gap + number(1, 99);
    }
  }
  private static String number(int from, int to) {
    int n = between(from, to + (draw(40) == 0 ? 1 : 0));
    return n < 10 && draw(20) == 0 ? "0" + n : String.valueOf(n);
  }

  private void text() {
    StringBuilder s = new StringBuilder(draw(20) == 0 ? " " : "").append(draw(30) == 0 ? "" : "town;");
    int[] likely = {1, 1, 1, 2, 2, 3, 3, 4, 5, 0};
    int boards = draw(3), instruments = draw(3);
    for (int k = 0; k < boards; k++) s.append(item(1)).append(';');
    for (int k = 0; k < instruments; k++) s.append(item(2)).append(';');
    for (int k = draw(12); k > 0; k--) s.append(item(likely[draw(likely.length)])).append(draw(12) == 0 ? " ; " : ";");
    String spoils = " ;;0a9zWtown-~5/:`{";
    for (int k = draw(3) - 1; k > 0 && s.length() > 0; k--) {
      int at = draw(s.length());
      if (draw(3) == 0) s.deleteCharAt(at); else if (draw(2) == 0) s.insert(at, spoils.charAt(draw(spoils.length())));
      else s.setCharAt(at, spoils.charAt(draw(spoils.length())));
    }
    if (draw(6) == 0) s.setLength(draw(s.length() + 1));
    call("clear");
    for (int k = 0; k < s.length() && k < 152; k++) call("type", s.charAt(k));
    call("read");
    call("digest");
  }

  private boolean run(int sort) {
    if (sort % 3 == 0) text(); else build();
    if (sort % 3 == 0 && draw(2) == 0) text();
    while (calls < 500 && !wrong) some(sort % 3 == 1 ? 6 : 60);
    call("digest");
    return !wrong;
  }

  public static void main(String[] args) {
    int runs = args.length > 0 ? Integer.parseInt(args[0]) : 900;
    seed = args.length > 1 ? Long.parseLong(args[1]) : 20261119L;
    int failed = 0;
    for (int r = 0; r < runs && failed < 3; r++) if (!new RandomRuns().run(r)) failed++;
    // THE TEXT alone, over and over, since most texts are refused at once
    for (int r = 0; r < 20 * runs && failed < 3; r++) {
      RandomRuns one = new RandomRuns();
      one.text();
      if (one.wrong) failed++;
    }
    System.out.println("random runs: " + (failed == 0 ? "all answers are as due" : failed + " runs are not as due"));
    if (failed > 0) System.exit(1);
  }
}
