import java.util.function.IntConsumer;
import java.util.function.IntToLongFunction;

/** Each sentence of the document that names a boundary, but for THE TEXT (Texts), the numbers of calls (Numbers), what is refused (Refusals). */
public final class Edges {
  private static final Cases cases = new Cases("edges");

  private static void hold(String sentence, Runnable calls) { cases.hold(sentence, calls); }
  private static void due(String call, long got, long want) { cases.due(call, got, want); }
  private static void row(String calls, int many, IntToLongFunction call, long... want) {
    long[] got = new long[many];
    for (int k = 0; k < many; k++) got[k] = call.applyAsLong(k);
    cases.row(calls, got, want);
  }
  private static void times(int many, IntConsumer call) { for (int k = 0; k < many; k++) call.accept(k); }
  private static HouseFiddles of(String text) { return Scenes.of(text); }
  private static HouseFiddles board(int kind, int age, int damp) {
    HouseFiddles x = new HouseFiddles();
    x.board(kind, age, damp, 0);
    return x;
  }
  private static void fraction(HouseFiddles x, long above, long below) {
    due("part(0)", x.part(0), above);
    due("part(1)", x.part(1), below);
  }

  private static void nothingYet() {
    hold("nothing is there: count", () -> row("count", 11, new HouseFiddles()::count, 0, 0, 0, 0, 0, 0, 0, 0, 0, 0, 0));
    hold("nothing is there: WET 0 at first", () -> { HouseFiddles x = new HouseFiddles(); row("wet", 5, y -> x.wet(y, 4), 0, 0, 0, 0, 0); });
    hold("nothing is there: THE FRACTION is 0 by 1 at first", () -> fraction(new HouseFiddles(), 0, 1));
    hold("nothing is there: STATUS is 0", () -> row("status", 3, new HouseFiddles()::status, 0, 0, 0));
    hold("nothing is there: digest", () -> due("digest", new HouseFiddles().digest(), Scenes.mixed(0, 0, 0, 0, 0, 0, 0, 0, 0, 0, 0, 0, 0, 0, 0, 0, 0, 1)));
    hold("nothing is there: town() answers 0, clear() 0", () -> { HouseFiddles x = new HouseFiddles(); due("town", x.town(), 0); due("clear", x.clear(), 0); });
    hold("nothing is there: WHOSE is no BOARD, ORCHESTRA no INSTRUMENT", () -> { due("whose", new HouseFiddles().whose(), 0); due("orchestra", new HouseFiddles().orchestra(), 0); });
    hold("nothing is there: TELLS none", () -> due("tells", new HouseFiddles().tells(), -1));
    hold("nothing is there: MAKE none", () -> due("best", new HouseFiddles().best(0, -1), -1));
    hold("nothing is there: a YEAR goes by, no BOARD has WORM", () -> { HouseFiddles x = new HouseFiddles(); due("year", x.year(1), 0); due("count(2)", x.count(2), 1); });
    hold("nothing is there: GENERATIONS of no INSTRUMENTS are 0", () -> due("generations", new HouseFiddles().generations(999999, 60), 0));
    hold("nothing is there: forget answers 0", () -> row("forget", 3, new HouseFiddles()::forget, 0, 0, 0));
    hold("the constants", () -> { due("NONE", HouseFiddles.NONE, -1); due("BAD", HouseFiddles.BAD, -2); due("NO", HouseFiddles.NO, -3); due("FULL", HouseFiddles.FULL, -4); });
    hold("one object knows nothing of another", () -> { HouseFiddles x = Scenes.full(), y = new HouseFiddles(); due("count(0)", y.count(0), 0); due("from", y.from(0), -3); due("of the first", x.count(0), 6); });
  }

  private static void asTheyCome() {
    hold("BOARDS 0 .. 5, as they come; one more is not there", () -> {
      HouseFiddles x = new HouseFiddles();
      row("board", 7, k -> x.board(k % 6, 10 * k, k, k % 4), 0, 1, 2, 3, 4, 5, -4);
      row("KIND", 6, b -> x.of(b, 0), 0, 1, 2, 3, 4, 5); row("AGE", 6, b -> x.of(b, 1), 0, 10, 20, 30, 40, 50);
      row("DAMP", 6, b -> x.of(b, 2), 0, 1, 2, 3, 4, 5); row("HOUSE", 6, b -> x.of(b, 3), 0, 1, 2, 3, 0, 1);
    });
    hold("WORM none at first, free at first, also beside others", () -> {
      HouseFiddles x = of("town;board 0 0 0 0;make 0;cut 0 0;worm 0;");
      x.board(5, 99, 9, 3);
      due("WORM", x.of(1, 4), 0); due("IN", x.of(1, 5), -1);
    });
    hold("INSTRUMENTS 0 .. 3, as they come; one more is not there", () -> {
      HouseFiddles x = new HouseFiddles();
      row("make", 5, k -> x.make(5 - k), 0, 1, 2, 3, -4); row("KIND", 4, i -> x.about(i, 0), 5, 4, 3, 2);
    });
    hold("the numbers begin anew in an empty town", () -> { HouseFiddles x = Scenes.full(); due("town", x.town(), 6); due("board", x.board(0, 0, 0, 0), 0); due("make", x.make(0), 0); });
    hold("HEARD 0 .. 5: six, one more is not kept", () -> {
      HouseFiddles x = new HouseFiddles(); row("heard", 7, k -> x.heard(0, k), 1, 2, 3, 4, 5, 6, -4); due("count(6)", x.count(6), 6);
    });
    hold("NOTES 0 .. 5: six, one more is not kept", () -> {
      HouseFiddles x = board(0, 0, 0); row("note", 7, k -> x.note(0, k, 0, 0, k), 1, 2, 3, 4, 5, 6, -4); due("count(7)", x.count(7), 6);
    });
    hold("MARKS 0 .. 5: six, one more is not kept", () -> {
      HouseFiddles x = of("town;make 0;"); row("mark", 7, k -> x.mark(0, k, 0, 0, 0, k), 1, 2, 3, 4, 5, 6, -4); due("count(8)", x.count(8), 6);
    });
    hold("there is room again for those that are forgotten", () -> {
      HouseFiddles x = Scenes.full();
      row("forget", 3, x::forget, 6, 6, 6);
      due("heard", x.heard(3, 60), 1); due("note", x.note(5, 99, 9, 3, 60), 1); due("mark", x.mark(3, 200, 4, 4, 3, 400), 1);
    });
    hold("THE TEXT: 150 bytes, one more is not kept", () -> {
      HouseFiddles x = new HouseFiddles();
      row("type", 151, k -> x.type(k % 128), java.util.stream.LongStream.rangeClosed(1, 151).map(k -> k == 151 ? -4 : k).toArray());
      due("count(10)", x.count(10), 150); due("clear", x.clear(), 150); due("type", x.type(127), 1);
    });
    hold("wet answers what it was, for each of the five", () -> {
      HouseFiddles x = new HouseFiddles();
      row("wet", 5, y -> x.wet(y, 4 - y), 0, 0, 0, 0, 0); row("wet", 5, y -> x.wet(y, y), 4, 3, 2, 1, 0); row("wet", 5, y -> x.wet(y, 0), 0, 1, 2, 3, 4);
    });
    hold("worm answers what it was, told twice too", () -> { HouseFiddles x = board(0, 0, 0); int[] is = {0, 1, 1, 0, 0}; row("worm", 5, k -> x.worm(0, is[k]), 0, 0, 1, 1, 0); });
  }

  private static void years() {
    hold("the YEAR is 0 at first and one more each time", () -> { HouseFiddles x = new HouseFiddles(); row("count(2)", 3, k -> { int was = x.count(2); x.year(1); return was; }, 0, 1, 2); });
    hold("the YEAR: 999 at most, from 998 by 1", () -> { HouseFiddles x = Scenes.late(998, ""); x.year(1); due("count(2)", x.count(2), 999); x.year(1); due("count(2)", x.count(2), 999); });
    hold("the YEAR: 999 at most, from 940 by 60: of the last ones 59 go by", () -> {
      HouseFiddles x = of("town;" + "years99;".repeat(9) + "years49;board 0 10 0 0;"); x.year(60); due("count(2)", x.count(2), 999); due("AGE", x.of(0, 1), 69);
    });
    hold("the YEAR: by 60 just to 999", () -> { HouseFiddles x = of("town;" + "years99;".repeat(9) + "years48;board 0 10 0 0;"); x.year(60); due("count(2)", x.count(2), 999); due("AGE", x.of(0, 1), 70); });
    hold("at 999 none goes by: AGE, DAMP, WORM are as they were", () -> {
      HouseFiddles x = Scenes.late(999, "board0 5 3 0;board0 5 3 0;make0;wet4 4 4 4 4;worm0;");
      x.board(0, 5, 3, 0); x.cuts(2, 0);
      due("year", x.year(60), 1); row("AGE", 3, b -> x.of(b, 1), 5, 5, 5); row("DAMP", 3, b -> x.of(b, 2), 3, 3, 3); row("WORM", 3, b -> x.of(b, 4), 1, 0, 0);
    });
    hold("at 999 year answers how many BOARDS have WORM, too", () -> due("year", Scenes.late(999, "board 0 0 0 0;board 0 0 0 0;board 0 0 0 0;worm 0;worm 2;").year(1), 2));
    hold("YEARS that do not go by are one that may be undone", () -> { HouseFiddles x = Scenes.late(999, ""); x.year(5); x.year(1); due("count(9)", x.count(9), 2); due("undo", x.undo(), 999); due("count(9)", x.count(9), 1); });
    hold("60 YEARS are together one that may be undone", () -> { HouseFiddles x = of("town;years 7;"); x.year(60); due("count(9)", x.count(9), 1); due("undo", x.undo(), 7); });
    hold("n YEARS are as n times one", () -> {
      HouseFiddles x = Scenes.some(), y = Scenes.some();
      x.undo(); y.undo(); x.image(0); y.image(0);
      x.year(13); times(13, k -> y.year(1));
      times(4, b -> row("of", 6, w -> x.of(b, w), java.util.stream.LongStream.range(0, 6).map(w -> y.of(b, (int) w)).toArray()));
    });
    hold("YEAR y has the WET of y by 5 left over, around", () -> {
      HouseFiddles x = of("town;wet 0 1 2 3 4;board 0 0 0 0;");
      row("WET", 11, y -> { x.dries(0, 9); x.year(1); return x.of(0, 2); }, 0, 1, 2, 3, 4, 0, 1, 2, 3, 4, 0);
    });
    hold("the WETS go around up to the last YEAR", () -> {
      HouseFiddles x = Scenes.late(994, "wet 0 1 2 3 4;board 0 0 0 0;");
      row("WET", 6, y -> { x.dries(0, 9); x.year(1); return x.of(0, 2); }, 4, 0, 1, 2, 3, 0);
    });
    hold("AGE is 1 more, 99 at most", () -> { HouseFiddles x = board(0, 97, 0); row("AGE", 4, k -> { x.year(1); return x.of(0, 1); }, 98, 99, 99, 99); });
    hold("AGE of one that is IN, too: 99 at most", () -> { HouseFiddles x = of("town;board 0 98 0 0;make 0;cut 0 0;"); row("AGE", 3, k -> { x.year(1); return x.of(0, 1); }, 99, 99, 99); });
    hold("DAMP of a free BOARD is as much more as it is WET, 9 at most", () -> {
      int[] damp = {0, 0, 5, 5, 6, 8, 9, 9}, wet = {0, 4, 3, 4, 4, 1, 0, 4};
      row("DAMP", 8, k -> { HouseFiddles x = board(0, 0, damp[k]); x.wet(0, wet[k]); x.year(1); return x.of(0, 2); }, 0, 4, 8, 9, 9, 9, 9, 9);
    });
    hold("DAMP of one that is IN is 1 less, 0 at least, however WET", () -> {
      HouseFiddles x = of("town;wet 4 4 4 4 4;board 0 0 2 0;board 0 0 9 0;make 0;cut 0 0;");
      row("DAMP", 4, k -> { x.year(1); return x.of(0, 2); }, 1, 0, 0, 0); due("the free one's", x.of(1, 2), 9);
    });
    hold("a BOARD that is taken out is WET again", () -> { HouseFiddles x = of("town;wet 3 3 3 3 3;board 0 0 5 0;make 0;cut 0 0;"); x.year(1); x.takes(0); x.year(1); due("DAMP", x.of(0, 2), 7); });
  }

  private static long worms(HouseFiddles x) {
    long mask = 0;
    for (int b = 0; b < x.count(0); b++) mask |= (long) x.of(b, 4) << b;
    return mask;
  }
  private static HouseFiddles wormy(String more) { return of("town;" + "board 0 0 0 0;".repeat(6) + more); }

  private static void worm() {
    hold("WORM comes to those next to it: one number less, one more", () -> { HouseFiddles x = wormy("worm 3;"); due("year", x.year(1), 3); due("WORM", worms(x), 0b011100); });
    hold("WORM: all at once, so one number in a YEAR", () -> {
      HouseFiddles x = wormy("worm 0;"); row("WORM", 6, k -> { x.year(1); return worms(x); }, 0b11, 0b111, 0b1111, 0b11111, 0b111111, 0b111111);
    });
    hold("WORM: all at once, down too", () -> { HouseFiddles x = wormy("worm 5;"); row("WORM", 5, k -> { x.year(1); return worms(x); }, 0b110000, 0b111000, 0b111100, 0b111110, 0b111111); });
    hold("WORM: the last is not next to the first", () -> { HouseFiddles x = wormy("worm 5;"); x.year(1); due("WORM of 0", x.of(0, 4), 0); HouseFiddles y = wormy("worm 0;"); y.year(1); due("WORM of 5", y.of(5, 4), 0); });
    hold("WORM comes to those IN the same INSTRUMENT", () -> { HouseFiddles x = wormy("make 0;make 0;cut 2 1;cut 3 1;worm 2;"); due("year", x.year(1), 2); due("WORM", worms(x), 0b001100); due("year", x.year(9), 2); });
    hold("WORM does not come to those IN another INSTRUMENT", () -> { HouseFiddles x = wormy("make 0;make 0;cut 2 0;cut 3 1;worm 2;"); due("year", x.year(9), 1); });
    hold("WORM does not come from a free one to one that is IN", () -> { HouseFiddles x = wormy("make 0;cut 2 0;worm 1;"); x.year(9); due("WORM", worms(x), 0b000011); });
    hold("WORM does not come from one that is IN to a free one", () -> { HouseFiddles x = wormy("make 0;cut 2 0;worm 2;"); x.year(9); due("WORM", worms(x), 0b000100); });
    hold("WORM does not come over one that is not with them", () -> { HouseFiddles x = wormy("make 0;cut 0 0;cut 2 0;worm 0;worm 1;"); x.year(9); due("WORM", worms(x), 0b000011); });
    hold("WORM: with no BOARD behind the last", () -> { HouseFiddles x = of("town;board 0 0 0 0;worm 0;"); due("year", x.year(60), 1); });
    hold("WORM stays on a BOARD that is cut, taken out, dried", () -> { HouseFiddles x = of("town;board 0 0 5 0;make 0;worm 0;"); x.cuts(0, 0); x.dries(0, 9); x.takes(0); due("WORM", x.of(0, 4), 1); });
    hold("WORM: where they are at the YEAR tells, not where they were", () -> { HouseFiddles x = wormy("make 0;cut 1 0;worm 1;"); x.year(1); x.takes(1); x.year(1); due("WORM", worms(x), 0b000111); });
  }

  private static void cutting() {
    hold("CUTTING: 4 at most in one, the fifth not", () -> { HouseFiddles x = wormy("make 0;make 0;"); row("cuts", 5, b -> x.cuts(b, 0), 1, 2, 3, 4, -4); due("free", x.of(4, 5), -1); due("for another", x.cuts(4, 1), 1); });
    hold("CUTTING: there is room again for one that is taken out", () -> { HouseFiddles x = wormy("make 0;cut 0 0;cut 1 0;cut 2 0;cut 3 0;"); due("takes", x.takes(1), 0); due("cuts", x.cuts(5, 0), 4); due("cuts", x.cuts(1, 0), -4); });
    hold("CUTTING the last BOARD for the last INSTRUMENT", () -> { HouseFiddles x = wormy("make 0;make 0;make 0;make 0;"); due("cuts", x.cuts(5, 3), 1); due("IN", x.of(5, 5), 3); due("takes", x.takes(5), 3); due("IN", x.of(5, 5), -1); });
    hold("about: BOARDS 0 to 4, HOUSES 0 to 4", () -> {
      HouseFiddles x = of("town;board 0 0 0 0;board 0 0 0 1;board 0 0 0 2;board 0 0 0 3;make 5;");
      row("BOARDS", 5, k -> { int n = x.about(0, 1); if (k < 4) x.cuts(k, 0); return n; }, 0, 1, 2, 3, 4); due("HOUSES", x.about(0, 2), 4);
      row("HOUSES", 5, k -> { int h = x.about(0, 2); if (k < 4) x.takes(k); return h; }, 4, 3, 2, 1, 0);
    });
    hold("about: HOUSES that are alike are one", () -> { HouseFiddles x = of("town;board 0 0 0 3;board 0 0 0 3;board 0 0 0 3;board 0 0 0 3;make 5;cut 0 0;cut 1 0;cut 2 0;cut 3 0;"); due("HOUSES", x.about(0, 2), 1); });
    hold("DRYING: DAMP is n less, 0 at least", () -> {
      int[] damp = {9, 9, 5, 5, 5, 1, 1}, n = {1, 9, 4, 5, 6, 1, 9};
      row("dries", 7, k -> board(0, 0, damp[k]).dries(0, n[k]), 8, 0, 1, 0, 0, 0, 0);
    });
    hold("DRYING one that is IN, too", () -> { HouseFiddles x = of("town;board 0 0 9 0;make 0;cut 0 0;"); due("dries", x.dries(0, 8), 1); due("dries", x.dries(0, 8), 0); due("dries", x.dries(0, 1), -3); });
  }

  private static void undo() {
    hold("UNDO: 8 at most: all of eight", () -> { HouseFiddles x = new HouseFiddles(); times(8, k -> x.year(1)); due("count(9)", x.count(9), 8); row("undo", 9, k -> x.undo(), 7, 6, 5, 4, 3, 2, 1, 0, -3); });
    hold("UNDO: 8 at most: of nine the first one stays", () -> { HouseFiddles x = new HouseFiddles(); times(9, k -> x.year(1)); due("count(9)", x.count(9), 8); row("undo", 9, k -> x.undo(), 8, 7, 6, 5, 4, 3, 2, 1, -3); due("count(2)", x.count(2), 1); });
    hold("UNDO: 8 at most: of twenty the last ones", () -> { HouseFiddles x = new HouseFiddles(); times(20, k -> x.year(1)); due("count(9)", x.count(9), 8); row("undo", 9, k -> x.undo(), 19, 18, 17, 16, 15, 14, 13, 12, -3); });
    hold("UNDO: of eight that are no YEARS, each BOARD as it was", () -> {
      HouseFiddles x = of("town;board 0 0 9 0;board 0 0 9 0;make 0;");
      long start = x.digest();
      times(4, k -> { x.cuts(k % 2, 0); x.dries(1, 1); });
      due("IN and not free are refused", x.status(1), 2); due("count(9)", x.count(9), 6);
      times(6, k -> x.undo()); due("digest", x.digest(), start);
    });
    hold("UNDO: one is undone, another may come: 8 again", () -> { HouseFiddles x = new HouseFiddles(); times(8, k -> x.year(1)); x.undo(); due("count(9)", x.count(9), 7); x.year(2); due("count(9)", x.count(9), 8); row("undo", 9, k -> x.undo(), 7, 6, 5, 4, 3, 2, 1, 0, -3); });
    hold("UNDO: when nothing may be, all stays", () -> { HouseFiddles x = Scenes.some(); times(4, k -> x.undo()); long d = x.digest(); due("undo", x.undo(), -3); due("digest", x.digest(), d); });
    hold("UNDO of CUTTING: it is free", () -> { HouseFiddles x = of("town;board 0 0 0 0;make 0;"); x.cuts(0, 0); due("undo", x.undo(), 0); due("IN", x.of(0, 5), -1); });
    hold("UNDO of TAKING OUT: it is IN what it was IN", () -> { HouseFiddles x = of("town;board 0 0 0 0;make 0;make 0;cut 0 1;"); x.takes(0); x.undo(); due("IN", x.of(0, 5), 1); });
    hold("UNDO of DRYING by more than it was: DAMP as ahead of it", () -> { HouseFiddles x = board(0, 0, 3); x.dries(0, 9); x.undo(); due("DAMP", x.of(0, 2), 3); });
    hold("UNDO of YEARS: AGE at 99, DAMP at 0 and at 9, WORM as ahead of them", () -> {
      HouseFiddles x = of("town;wet 4;board 0 98 8 0;board 0 99 1 1;board 0 0 0 2;make 0;cut 1 0;worm 2;");
      long d = x.digest(); x.year(60); x.undo(); due("digest", x.digest(), d);
    });
    hold("UNDO answers the YEAR then", () -> { HouseFiddles x = of("town;board 0 0 9 0;years 4;"); x.dries(0, 1); x.year(3); x.dries(0, 1); row("undo", 3, k -> x.undo(), 7, 4, 4); });
    hold("UNDO: behind a BOARD that comes none may be", () -> { HouseFiddles x = Scenes.some(); x.board(0, 0, 0, 0); due("count(9)", x.count(9), 0); due("undo", x.undo(), -3); });
    hold("UNDO: behind an INSTRUMENT that comes none may be", () -> { HouseFiddles x = Scenes.some(); x.make(0); due("count(9)", x.count(9), 0); due("undo", x.undo(), -3); });
    hold("UNDO: behind a WET none may be, also one that is so already", () -> { HouseFiddles x = Scenes.some(); x.wet(0, 1); due("count(9)", x.count(9), 0); due("undo", x.undo(), -3); });
    hold("UNDO: behind WORM told none may be, also none of one without", () -> { HouseFiddles x = Scenes.some(); x.worm(0, 0); due("count(9)", x.count(9), 0); due("undo", x.undo(), -3); });
    hold("UNDO: what is told behind those may be undone", () -> { HouseFiddles x = Scenes.some(); x.wet(0, 1); x.year(1); due("count(9)", x.count(9), 1); due("undo", x.undo(), 2); due("undo", x.undo(), -3); });
    hold("UNDO: behind all others what may be stays", () -> {
      HouseFiddles x = Scenes.some();
      x.heard(0, 0); x.note(0, 0, 0, 0, 0); x.mark(0, 0, 0, 0, 0, 0); x.forget(0); x.forget(1); x.forget(2); x.type(0); x.clear(); x.read(); x.image(0); x.weeps(0, 0, 1);
      due("count(9)", x.count(9), 4);
    });
    hold("UNDO: HEARD, NOTES, MARKS, WETS stay as they are", () -> {
      HouseFiddles x = Scenes.some(); x.heard(0, 7); x.note(0, 1, 1, 1, 1); x.forget(2); x.undo();
      due("count(6)", x.count(6), 3); due("count(7)", x.count(7), 2); due("count(8)", x.count(8), 0); due("wet", x.wet(4, 0), 3);
    });
    hold("UNDO: behind town() none may be", () -> { HouseFiddles x = Scenes.full(); x.town(); due("count(9)", x.count(9), 0); due("undo", x.undo(), -3); });
    hold("UNDO: behind a town read none may be", () -> { HouseFiddles x = Scenes.full(); x.read(); due("count(9)", x.count(9), 0); due("undo", x.undo(), -3); });
  }

  private static void images() {
    hold("town(): all as at first, but for IMAGES, THE TEXT, THE FRACTION, STATUS", () -> {
      HouseFiddles x = Scenes.full(); long above = x.part(0), below = x.part(1); x.make(0); due("town", x.town(), 6);
      row("count", 11, x::count, 0, 0, 0, 0, 0, 0, 0, 0, 0, 0, 150); row("wet", 5, y -> x.wet(y, 0), 0, 0, 0, 0, 0);
      fraction(x, above, below); due("status(2)", x.status(2), 1); due("from", x.from(0), 1); due("from", x.from(1), 1); due("count(0)", x.count(0), 6); due("read", x.read(), 2);
    });
    hold("an IMAGE keeps all that is told: digest as it was, when all is full", () -> {
      HouseFiddles x = Scenes.full(); x.image(1); long d = x.digest(); x.town(); x.wet(3, 3); x.from(1); due("digest", x.digest(), d);
    });
    hold("an IMAGE of a town of nothing", () -> { HouseFiddles x = new HouseFiddles(); long d = x.digest(); x.image(0); times(6, b -> x.board(0, 0, 0, 0)); x.make(0); x.wet(4, 4); x.year(3); x.from(0); due("digest", x.digest(), d); });
    hold("an IMAGE keeps what may be undone: eight", () -> { HouseFiddles x = new HouseFiddles(); times(9, k -> x.year(1)); x.image(0); times(9, k -> x.undo()); x.town(); x.from(0); due("count(9)", x.count(9), 8); row("undo", 9, k -> x.undo(), 8, 7, 6, 5, 4, 3, 2, 1, -3); });
    hold("an IMAGE keeps what may be undone: nothing", () -> { HouseFiddles x = new HouseFiddles(); x.image(0); x.year(1); x.from(0); due("undo", x.undo(), -3); });
    hold("an IMAGE stays as it was kept, though all goes on from it", () -> { HouseFiddles x = Scenes.some(); x.from(0); long d = x.digest(); x.year(9); x.cuts(3, 0); x.wet(1, 4); x.forget(0); x.from(0); due("digest", x.digest(), d); });
    hold("a later IMAGE takes the place of the one", () -> { HouseFiddles x = new HouseFiddles(); x.image(0); x.year(1); x.image(0); x.year(1); x.from(0); due("count(2)", x.count(2), 1); });
    hold("IMAGES 0 and 1 are apart; neither keeps the other", () -> {
      HouseFiddles x = new HouseFiddles(); x.image(0); x.year(1); x.image(1); x.year(1); x.from(0); due("count(2)", x.count(2), 0); x.from(1); due("count(2)", x.count(2), 1); x.from(0); due("count(2)", x.count(2), 0);
    });
    hold("an IMAGE keeps not THE TEXT, THE FRACTION", () -> {
      HouseFiddles x = of("town;board 0 0 0 0;make 0;cut 0 0;"); x.image(0); x.weeps(0, 0, 5); Scenes.type(x, "town;"); x.from(0); fraction(x, 9, 2); due("count(10)", x.count(10), 5);
    });
  }

  private static HouseFiddles six(int age, int damp) {
    HouseFiddles x = new HouseFiddles();
    times(6, kind -> x.board(kind, age, damp, 0));
    return x;
  }
  /** How the six KINDS sound on a STRING. */
  private static void sound(HouseFiddles x, int s, long... want) { row("sounds on " + s, 6, b -> x.sounds(b, s), want); }

  private static void sounds() {
    hold("DOOR: a quarter (cut) of AGE, and 6", () -> { int[] age = {0, 3, 4, 7, 8, 95, 96, 99}; row("sounds", 8, k -> board(0, age[k], 0).sounds(0, 0), 6, 6, 7, 7, 8, 29, 30, 30); });
    hold("DOOR: less DAMP, 0 at least", () -> row("sounds", 10, d -> board(0, 0, d).sounds(0, 1), 6, 5, 4, 3, 2, 1, 0, 0, 0, 0));
    hold("DOOR: 0 at least is of all, not of its 6", () -> { int[] age = {12, 15, 16, 99}; row("sounds", 4, k -> board(0, age[k], 9).sounds(0, 3), 0, 0, 1, 21); });
    hold("each KIND at AGE 0, DAMP 0", () -> { HouseFiddles x = six(0, 0); sound(x, 0, 6, 6, 6, 6, 10, 2); sound(x, 1, 6, 6, 6, 6, 6, 2); sound(x, 2, 6, 9, 6, 11, 9, 2); sound(x, 3, 6, 6, 12, 11, 6, 4); });
    hold("each KIND at AGE 99, DAMP 0", () -> { HouseFiddles x = six(99, 0); sound(x, 0, 30, 30, 30, 30, 34, 10); sound(x, 1, 30, 30, 30, 30, 30, 10); sound(x, 2, 30, 33, 30, 35, 33, 10); sound(x, 3, 30, 30, 60, 35, 30, 20); });
    hold("each KIND at AGE 0, DAMP 9: what is more comes behind 0 at least", () -> { HouseFiddles x = six(0, 9); sound(x, 0, 0, 0, 0, 0, 10, 0); sound(x, 1, 0, 0, 0, 0, 6, 0); sound(x, 2, 0, 3, 0, 5, 9, 0); sound(x, 3, 0, 0, 0, 5, 6, 0); });
    hold("each KIND at AGE 99, DAMP 9", () -> { HouseFiddles x = six(99, 9); sound(x, 0, 21, 21, 21, 21, 34, 7); sound(x, 1, 21, 21, 21, 21, 30, 7); sound(x, 2, 21, 24, 21, 26, 33, 7); sound(x, 3, 21, 21, 42, 26, 30, 14); });
    hold("MARBLE: a third (cut), of SILL and not of DOOR", () -> {
      row("on 0", 7, d -> board(5, 0, d).sounds(0, 0), 2, 1, 1, 1, 0, 0, 0); row("on 3", 7, d -> board(5, 0, d).sounds(0, 3), 4, 3, 2, 2, 1, 0, 0);
    });
    hold("with WORM half (cut) of that, each KIND", () -> {
      HouseFiddles x = six(4, 0); times(6, b -> x.worm(b, 1));
      sound(x, 0, 3, 3, 3, 3, 5, 1); sound(x, 1, 3, 3, 3, 3, 3, 1); sound(x, 2, 3, 5, 3, 6, 5, 1); sound(x, 3, 3, 3, 7, 6, 3, 2);
    });
    hold("with WORM half of 0 is 0, half of 1 is 0", () -> { HouseFiddles x = board(0, 0, 6), y = board(0, 0, 5); x.worm(0, 1); y.worm(0, 1); due("sounds", x.sounds(0, 0), 0); due("sounds", y.sounds(0, 0), 0); });
    hold("a BOARD sounds alike free and IN", () -> { HouseFiddles x = of("town;board 0 40 3 0;make 5;cut 0 0;"); due("sounds", x.sounds(0, 2), 13); x.takes(0); due("sounds", x.sounds(0, 2), 13); });
  }

  /** What each KIND of INSTRUMENT plays by a MARK's numbers, found by the one y that fits it. */
  private static void marked(int x, int h, int n, int s, long... want) {
    row("x " + x + ", h " + h + ", n " + n + " on " + s, 6, kind -> {
      HouseFiddles town = of("town;make 0;");
      for (int y = 0; y <= 400; y++) {
        town.forget(2);
        town.mark(0, x, h, n, s, y);
        if ((town.kinds(0) & 1 << kind) != 0) return y;
        if (y % 100 == 99) town = of("town;make 0;");
      }
      return -1;
    }, want);
  }

  private static void plays() {
    hold("without BOARDS as told for 0, 0, 0, each KIND", () -> times(6, kind -> row("plays", 4, s -> of("town;make " + kind + ";").plays(0, s), 0, 0, 0, 0)));
    hold("LENT: 3 less for each HOUSE but one", () -> { marked(20, 1, 1, 1, 20, 20, 20, 20, 10, 20); marked(20, 2, 2, 1, 20, 17, 20, 17, 10, 20); marked(20, 4, 4, 1, 20, 11, 20, 0, 10, 20); });
    hold("LENT: with no HOUSES nothing less; TENEMENT too", () -> marked(20, 0, 4, 1, 20, 20, 20, 20, 10, 20));
    hold("LENT: 0 at least", () -> { marked(10, 4, 4, 2, 10, 1, 10, 0, 5, 0); marked(9, 4, 4, 2, 9, 0, 9, 0, 5, 0); marked(8, 4, 4, 2, 8, 0, 8, 0, 4, 0); marked(2, 2, 2, 2, 2, 0, 2, 0, 1, 0); });
    hold("TENEMENT: as LENT, but 0 if h is 3 or more", () -> { marked(30, 2, 4, 1, 30, 27, 30, 27, 15, 30); marked(30, 3, 4, 1, 30, 24, 30, 0, 15, 30); marked(30, 4, 4, 1, 30, 21, 30, 0, 15, 30); });
    hold("CELLO: twice on STRING 0 alone; BASS: as CELLO on 0, 1, else 0", () -> { marked(7, 1, 1, 0, 7, 7, 14, 7, 4, 14); marked(7, 1, 1, 1, 7, 7, 7, 7, 4, 7); marked(7, 1, 1, 2, 7, 7, 7, 7, 4, 0); marked(7, 1, 1, 3, 7, 7, 7, 7, 8, 0); });
    hold("SQUEAK: n more on STRING 3, also of 0; half (cut up) on others", () -> { marked(0, 0, 4, 3, 0, 0, 0, 0, 4, 0); marked(0, 0, 0, 3, 0, 0, 0, 0, 0, 0); marked(1, 1, 4, 2, 1, 1, 1, 1, 1, 0); marked(2, 1, 4, 0, 2, 2, 4, 2, 1, 4); });
    hold("x 200: y 400 is the last that is told", () -> { marked(200, 4, 4, 0, 200, 191, 400, 0, 100, 400); marked(200, 4, 4, 3, 200, 191, 200, 0, 204, 0); });
    hold("four BOARDS of four HOUSES play as told by their x, h, n", () -> {
      long[] due = {24, 15, 48, 0, 12, 48};
      row("plays", 6, kind -> of("town;board 0 0 0 0;board 0 0 0 1;board 0 0 0 2;board 0 0 0 3;make " + kind + ";cut 0 0;cut 1 0;cut 2 0;cut 3 0;").plays(0, 0), due);
    });
    hold("the loudest that plays: four SILLS of AGE 99 on STRING 3", () -> {
      String four = "board 2 99 0 0;".repeat(4) + "make 0;make 4;";
      due("plays", of("town;" + four + "cut 0 0;cut 1 0;cut 2 0;cut 3 0;").plays(0, 3), 240); due("plays", of("town;" + four + "cut 0 1;cut 1 1;cut 2 1;cut 3 1;").plays(1, 3), 244);
    });
    hold("an INSTRUMENT plays by its own BOARDS alone", () -> { HouseFiddles x = of("town;board 0 0 0 0;board 0 0 0 1;board 0 0 0 2;make 1;make 0;cut 0 0;cut 1 1;"); due("plays", x.plays(0, 0), 6); due("plays", x.plays(1, 0), 6); });
  }

  private static void later() {
    hold("THEN: behind 0 YEARS as it PLAYS", () -> { HouseFiddles x = Scenes.some(); row("then", 4, s -> x.then(0, s, 0), x.plays(0, 0), x.plays(0, 1), x.plays(0, 2), x.plays(0, 3)); });
    hold("THEN: behind 60 YEARS", () -> { HouseFiddles x = of("town;board 0 0 0 0;make 0;cut 0 0;"); row("then", 2, k -> x.then(0, 0, 59 + k), 20, 21); });
    hold("THEN: as it PLAYS when they have gone by", () -> { HouseFiddles x = Scenes.some(); long due = x.then(0, 2, 17); x.year(17); due("plays", x.plays(0, 2), due); });
    hold("THEN: YEARS go beyond 999", () -> { HouseFiddles x = Scenes.late(998, "board 0 0 5 0;make 0;cut 0 0;"); row("then", 8, m -> x.then(0, 0, m), 1, 2, 3, 4, 6, 7, 7, 7); due("count(2)", x.count(2), 998); });
    hold("THEN: AGE 99 at most, DAMP 0 at least", () -> { HouseFiddles x = of("town;board 0 94 1 0;make 0;cut 0 0;"); row("then", 5, k -> x.then(0, 0, 15 * k), 28, 30, 30, 30, 30); });
    hold("THEN: WORM comes in these YEARS, and is not there now", () -> { HouseFiddles x = wormy("make 0;cut 0 0;cut 1 0;cut 2 0;worm 0;"); row("then", 4, m -> x.then(0, 0, m), 15, 12, 9, 9); due("count(4)", x.count(4), 1); });
    hold("WAIT: 0, when it does now", () -> { HouseFiddles x = board(0, 0, 0); due("waits", x.waits(0, 0, 1), 0); due("waits", x.waits(0, 0, 6), 0); due("waits", x.waits(0, 0, 7), 4); });
    hold("WAIT: 60 is told, 61 is none", () -> { due("at 60", board(0, 0, 0).waits(0, 0, 21), 60); due("at 61", board(0, 3, 0).waits(0, 0, 22), -1); due("at 60", board(0, 4, 0).waits(0, 0, 22), 60); });
    hold("WAIT: 60 is the loudest that is told", () -> { due("now", board(2, 99, 0).waits(0, 3, 60), 0); due("at 60", board(2, 36, 0).waits(0, 3, 60), 60); due("never", board(0, 99, 0).waits(0, 0, 31), -1); });
    hold("WAIT: 1 is the least that is told", () -> { due("never", of("town;wet 1 1 1 1 1;board 0 0 9 0;").waits(0, 0, 1), 16); due("now", board(0, 0, 5).waits(0, 0, 1), 0); due("later", board(0, 0, 6).waits(0, 0, 1), 4); });
    hold("WAIT: first, though it sounds less behind that", () -> { HouseFiddles x = of("town;wet 0 4;board 0 3 0 0;"); due("waits", x.waits(0, 0, 7), 1); x.year(2); due("less", x.sounds(0, 0), 3); });
    hold("WAIT: YEARS go beyond 999, the WETS around", () -> {
      due("YEAR 999 has the last WET", Scenes.late(999, "wet 0 0 0 0 1;board 0 3 0 0;").waits(0, 0, 7), 5); due("YEAR 1000 has the first one", Scenes.late(999, "wet 1 0 0 0 0;board 0 2 0 0;").waits(0, 0, 7), 6);
      due("only then", Scenes.late(999, "wet 1 0 0 0 0;board 0 3 0 0;").waits(0, 0, 7), 1);
    });
    hold("WAIT: one that is IN dries", () -> due("waits", of("town;wet 4 4 4 4 4;board 0 0 9 0;make 0;cut 0 0;").waits(0, 0, 1), 4));
    hold("DRY: 0, when it does", () -> { HouseFiddles x = of("town;board 0 0 3 0;make 0;cut 0 0;"); row("dry", 6, k -> x.dry(0, 0, k + 1), 0, 0, 0, 1, 2, 3); });
    hold("DRY: 9 is told; none, if no n does", () -> { HouseFiddles x = of("town;board 0 99 9 0;make 0;cut 0 0;"); due("dry", x.dry(0, 0, 29), 8); due("dry", x.dry(0, 0, 30), 9); due("dry", x.dry(0, 0, 31), -1); });
    hold("DRY: x of 1, x of 200", () -> {
      due("1", of("town;board 0 0 6 0;make 0;cut 0 0;").dry(0, 0, 1), 1);
      due("200", of("town;" + "board 2 99 9 0;".repeat(4) + "make 0;cut 0 0;cut 1 0;cut 2 0;cut 3 0;").dry(0, 3, 200), 4);
    });
    hold("DRY: without BOARDS none", () -> due("dry", of("town;make 4;board 0 0 9 0;").dry(0, 3, 1), -1));
    hold("DRY: all BOARDS, each 0 at least", () -> { HouseFiddles x = of("town;board 0 0 1 0;board 0 0 4 0;make 0;cut 0 0;cut 1 0;"); row("dry", 13, k -> x.dry(0, 0, k + 1), 0, 0, 0, 0, 0, 0, 0, 1, 1, 2, 3, 4, -1); due("DAMP", x.count(5), 5); });
    hold("DRY: only the INSTRUMENT's BOARDS with WORM sound half", () -> { HouseFiddles x = of("town;board 0 24 4 0;make 0;cut 0 0;worm 0;"); row("dry", 4, k -> x.dry(0, 0, k + 4), 0, 2, 4, -1); });
  }

  private static void tune() {
    hold("TUNE: 0, when it does, though others would too", () -> { HouseFiddles x = of("town;board 0 0 9 0;make 0;"); due("tune", x.tune(0, 0, 0), 0); x.cuts(0, 0); due("tune", x.tune(0, 0, 0), 0); });
    hold("TUNE: none, without free BOARDS", () -> { HouseFiddles x = of("town;board 0 0 0 0;make 0;make 0;cut 0 0;"); due("not so", x.tune(0, 0, 12), -1); due("it does", x.tune(0, 0, 6), 0); due("not so", x.tune(1, 0, 6), -1); });
    hold("TUNE: just x, not more", () -> { HouseFiddles x = of("town;board 0 0 0 0;board 0 40 0 0;make 0;"); row("tune", 6, k -> x.tune(0, 0, new int[] {5, 6, 7, 16, 21, 22}[k]), -1, 1, -1, 2, -1, 3); });
    hold("TUNE: the fewest, though others are less as bits", () -> { HouseFiddles x = of("town;board 0 0 3 0;board 0 0 3 0;board 0 0 0 0;make 0;"); due("tune", x.tune(0, 0, 6), 4); });
    hold("TUNE: of like ones the least", () -> { HouseFiddles x = of("town;board 0 0 0 0;board 0 4 0 0;board 0 8 0 0;board 0 12 0 0;make 0;"); due("6 and 9, 7 and 8", x.tune(0, 0, 15), 6); due("one of four", wormy("make 0;").tune(0, 0, 6), 1); });
    hold("TUNE: four for an empty one, not five", () -> { HouseFiddles x = wormy("make 0;"); due("four", x.tune(0, 0, 24), 15); due("five", x.tune(0, 0, 30), -1); due("six", x.tune(0, 0, 36), -1); });
    hold("TUNE: each x that none makes is none", () -> { HouseFiddles x = wormy("make 0;"); for (int v = 0; v <= 200; v++) due("tune(0, 0, " + v + ")", x.tune(0, 0, v), v % 6 == 0 && v <= 24 ? (1 << v / 6) - 1 : -1); });
    hold("TUNE: 4 at most with those that are IN it", () -> {
      HouseFiddles x = wormy("make 0;cut 0 0;"); due("three more", x.tune(0, 0, 24), 0b1110); due("four more", x.tune(0, 0, 30), -1);
      times(3, k -> x.cuts(k + 1, 0)); due("none more", x.tune(0, 0, 24), 0); due("one more", x.tune(0, 0, 30), -1);
    });
    hold("TUNE: the highest BOARDS", () -> { HouseFiddles x = of("town;" + "board 0 0 9 0;".repeat(4) + "board 0 4 0 0;board 0 8 0 0;make 0;"); due("5", x.tune(0, 0, 8), 32); due("4 and 5", x.tune(0, 0, 15), 48); });
    hold("TUNE: x of 200", () -> due("tune", of("town;" + "board 2 76 0 0;".repeat(4) + "make 0;").tune(0, 3, 200), 15));
    hold("TUNE: by HOUSES and BOARDS of those that would be IN it", () -> {
      HouseFiddles x = of("town;board 0 0 0 0;board 0 0 0 1;board 0 0 0 2;make 3;make 4;"); row("TENEMENT", 3, k -> x.tune(0, 0, new int[] {9, 15, 18}[k]), 3, -1, -1); row("SQUEAK", 3, k -> x.tune(1, 3, 7 * (k + 1)), 1, 3, 7);
    });
    hold("TUNE: a BOARD that is IN another is not free", () -> { HouseFiddles x = of("town;board 0 40 0 0;board 0 0 0 0;make 0;make 0;cut 0 1;"); due("tune", x.tune(0, 0, 16), -1); due("tune", x.tune(0, 0, 6), 2); });
  }

  private static void make() {
    hold("MAKE: no INSTRUMENTS: NONE, whatever b is, as told", () -> { HouseFiddles x = of("town;board 0 0 0 0;board 0 0 0 0;"); row("best", 3, k -> x.best(0, k - 1), -1, -1, -1); due("not as told", x.best(0, 2), -10); });
    hold("MAKE: no BOARDS: 0", () -> due("best", of("town;make 0;make 5;").best(0, -1), 0));
    hold("MAKE: no free BOARDS: as it is", () -> { HouseFiddles x = of("town;board 0 0 0 0;board 0 40 0 0;make 0;make 0;cut 0 1;cut 1 0;"); row("best", 3, k -> x.best(0, k - 1), 6, 1, 0); });
    hold("MAKE: 4 at most in one, the two poorest stay free", () -> { HouseFiddles x = of("town;board 0 4 0 0;board 0 0 0 0;board 0 8 0 0;board 0 0 0 0;board 0 12 0 0;board 0 16 0 0;make 0;"); row("best", 7, k -> x.best(0, k - 1), 34, 0, -1, 0, -1, 0, 0); });
    hold("MAKE: 4 at most in one, those that are IN it too", () -> { HouseFiddles x = wormy("make 0;cut 0 0;cut 1 0;cut 2 0;"); row("best", 7, k -> x.best(0, k - 1), 24, 0, 0, 0, -1, -1, 0); x.cuts(4, 0); row("best", 7, k -> x.best(0, k - 1), 24, 0, 0, 0, -1, 0, -1); });
    hold("MAKE: 4 at most in one: five that sound 0 are not tried", () -> { HouseFiddles x = of("town;" + "board 0 0 9 0;".repeat(6) + "make 0;"); row("best", 7, k -> x.best(0, k - 1), 0, -1, -1, -1, -1, -1, -1); });
    hold("MAKE: one that has 4 takes none, the next one does", () -> { HouseFiddles x = wormy("make 0;make 0;"); times(4, b -> x.cuts(b, 0)); row("best", 7, k -> x.best(0, k - 1), 12, 0, 0, 0, 0, 1, 1); });
    hold("MAKE: a TENEMENT that is worse with a third HOUSE leaves it to the next one", () -> {
      HouseFiddles x = of("town;board 0 0 0 0;board 0 0 0 1;board 0 0 3 2;make 3;make 0;cut 0 0;cut 1 0;"); row("best", 4, k -> x.best(0, k - 1), 3, 0, 0, 1);
    });
    hold("MAKE: free first, when nothing is the better for it", () -> { HouseFiddles x = of("town;board 0 99 0 0;board 0 99 0 0;make 0;make 5;"); row("on 2, where a BASS plays 0", 3, k -> x.best(2, k - 1), 0, -1, -1); });
    hold("MAKE: rising: free, then INSTRUMENT 0, BOARD 0 first", () -> { HouseFiddles x = of("town;board 0 0 0 0;board 0 0 0 0;board 0 0 0 0;make 0;make 0;"); row("best", 4, k -> x.best(0, k - 1), 6, -1, 0, 1); });
    hold("MAKE: rising, not by the last BOARD", () -> { HouseFiddles x = of("town;board 0 0 0 0;board 0 0 0 0;make 0;make 0;"); row("best", 3, k -> x.best(0, k - 1), 6, 0, 1); });
    hold("MAKE: the poorest is best, not all of them together", () -> { HouseFiddles x = of("town;board 0 99 0 0;board 0 0 0 0;board 0 0 0 0;make 0;make 0;"); row("best", 4, k -> x.best(0, k - 1), 12, 0, 1, 1); });
    hold("MAKE: a LENT one is the better for fewer HOUSES", () -> { HouseFiddles x = of("town;board 0 40 0 0;board 0 0 4 1;make 1;"); row("best", 3, k -> x.best(0, k - 1), 16, 0, -1); });
    hold("MAKE: four INSTRUMENTS, six BOARDS", () -> { HouseFiddles x = wormy("make 0;make 0;make 0;make 0;"); row("best", 7, k -> x.best(0, k - 1), 6, -1, -1, 0, 1, 2, 3); });
    hold("MAKE: IN the last INSTRUMENT", () -> { HouseFiddles x = of("town;" + "board 0 0 0 0;".repeat(4) + "make 0;make 0;make 0;make 0;"); row("best", 5, k -> x.best(0, k - 1), 6, 0, 1, 2, 3); });
  }

  private static void together() {
    HouseFiddles x = of("town;board 0 0 6 0;board 0 16 6 0;board 0 20 6 0;make 0;make 0;make 0;cut 0 0;cut 1 1;cut 2 2;");
    hold("TOGETHER: unlike by 4 or less, not by 5", () -> { due("0, 4, 5", x.together(0, 0), 3); due("0, 4, 5", x.together(1, 0), 7); due("0, 4, 5", x.together(2, 0), 6); });
    hold("TOGETHER: itself, too", () -> due("together", of("town;make 0;").together(0, 3), 1));
    hold("TOGETHER: four of four", () -> row("together", 4, i -> of("town;make 0;make 1;make 2;make 3;").together(i, i), 15, 15, 15, 15));
    hold("ORCHESTRA: no INSTRUMENTS: none", () -> due("orchestra", board(0, 0, 0).orchestra(), 0));
    hold("ORCHESTRA: one", () -> due("orchestra", of("town;make 4;").orchestra(), 1));
    hold("ORCHESTRA: all four", () -> due("orchestra", of("town;make 0;make 1;make 2;make 3;").orchestra(), 15));
    hold("ORCHESTRA: each two, of like ones the least", () -> due("0, 4, 5", x.orchestra(), 3));
    hold("ORCHESTRA: of like ones the least: none with another", () -> due("orchestra", of("town;board 0 40 0 0;board 0 80 0 0;board 0 0 0 0;make 0;make 0;make 0;cut 0 0;cut 1 1;cut 2 2;").orchestra(), 1));
    hold("ORCHESTRA: the most, though others are less as bits", () -> due("orchestra", of("town;board 0 99 0 0;board 0 40 0 0;make 0;make 0;make 0;make 0;cut 0 0;cut 1 1;").orchestra(), 0b1100));
    hold("ORCHESTRA: on all STRINGS: unlike by 4 on each, by 5 on the last", () -> {
      due("a SILL of 4, nothing", of("town;board 2 0 2 0;make 0;make 0;cut 0 0;").orchestra(), 1); due("a SILL of 2, nothing", of("town;board 2 0 4 0;make 0;make 0;cut 0 0;").orchestra(), 3);
      due("ATTIC of 0, nothing", of("town;board 3 0 6 0;make 0;make 0;cut 0 0;").orchestra(), 1);
    });
    hold("ORCHESTRA: on STRING 0, on STRING 1 alone unlike", () -> {
      due("CELLO of 3", of("town;board 0 0 3 0;make 2;make 0;cut 0 0;").orchestra(), 1); due("CELLO of 2", of("town;board 0 0 4 0;make 2;make 0;cut 0 0;").orchestra(), 3);
      // by a DOOR of 20 and by two KITCHENS of 10 (6 on STRING 1): BASSES play 40, 20, 0, 0 and 40, 12, 0, 0
      due("on STRING 1 alone", of("town;board 0 56 0 0;board 4 0 0 0;board 4 0 0 0;make 5;make 5;cut 0 0;cut 1 1;cut 2 1;").orchestra(), 1);
    });
  }

  private static void whose() {
    hold("WHOSE: by no HEARD ones each BOARD", () -> { due("whose", wormy("").whose(), 63); due("whose", board(0, 0, 0).whose(), 1); });
    hold("WHOSE: by all HEARD, the first and the sixth", () -> {
      HouseFiddles x = of("town;board 0 0 0 0;board 0 4 0 0;"); x.heard(0, 6); due("whose", x.whose(), 1); times(4, k -> x.heard(1, 6)); due("whose", x.whose(), 1); x.heard(3, 7); due("whose", x.whose(), 0);
      x.forget(0); times(5, k -> x.heard(2, 7)); x.heard(0, 6); due("whose", x.whose(), 0);
    });
    hold("WHOSE: 0 and 60 are HEARD", () -> { HouseFiddles x = of("town;board 0 0 9 0;board 2 99 0 0;"); x.heard(3, 60); due("whose", x.whose(), 2); x.forget(0); x.heard(0, 0); due("whose", x.whose(), 1); });
    hold("WHOSE: now, behind YEARS no more", () -> { HouseFiddles x = board(0, 3, 0); x.heard(0, 6); due("whose", x.whose(), 1); x.year(1); due("whose", x.whose(), 0); });
    hold("TELLS: none, when no BOARD is so", () -> { HouseFiddles x = board(0, 0, 0); x.heard(0, 7); due("tells", x.tells(), -1); });
    hold("TELLS: of like ones the least: one BOARD", () -> due("tells", board(0, 0, 0).tells(), 0));
    hold("TELLS: of like ones the least: six that are alike", () -> due("tells", wormy("").tells(), 0));
    hold("TELLS: of like ones the least: STRINGS 2 and 3", () -> due("tells", of("town;board 0 0 0 0;board 3 0 0 0;").tells(), 2));
    hold("TELLS: of like ones the least: STRINGS 2 and 3, of five BOARDS", () -> due("tells", of("town;board 0 0 0 0;board 1 0 0 0;board 2 0 0 0;board 3 0 0 0;board 5 0 0 0;").tells(), 2));
    hold("TELLS: the last STRING", () -> due("tells", of("town;board 0 0 0 0;board 2 0 0 0;").tells(), 3));
    hold("TELLS: the most that are alike, not how many sounds there are", () -> {
      // on 0: 6, 6, 6, 10; on 1: all 6; on 2: 6, 9, 6, 9; on 3: 6, 6, 12, 6
      HouseFiddles x = of("town;board 0 0 0 0;board 1 0 0 0;board 2 0 0 0;board 4 0 0 0;"); due("on 0 three, on 2 two and two", x.tells(), 2);
    });
  }

  private static void kinds() {
    hold("IS: without NOTES each KIND", () -> due("is", wormy("").is(5), 63));
    hold("IS: by all NOTES of one, the sixth too, another's not", () -> {
      HouseFiddles x = of("town;board 0 0 0 0;board 5 0 0 0;"); times(5, k -> x.note(1, 0, 0, 0, 2)); due("is(0)", x.is(0), 63); due("is(1)", x.is(1), 32); x.note(0, 0, 0, 0, 10); due("is(0)", x.is(0), 16); due("is(1)", x.is(1), 32);
    });
    hold("IS: by its first NOTE and by its last, none", () -> { HouseFiddles x = board(0, 0, 0); x.note(0, 0, 0, 0, 10); x.note(0, 0, 0, 0, 2); due("is", x.is(0), 0); });
    hold("IS: x of 60, AGE 99, STRING 3: a SILL", () -> { HouseFiddles x = board(0, 0, 0); x.note(0, 99, 0, 3, 60); due("is", x.is(0), 4); });
    hold("IS: x of 0, DAMP 9", () -> { HouseFiddles x = board(0, 0, 0); x.note(0, 0, 9, 2, 0); due("is", x.is(0), 0b100101); });
    hold("IS: without WORM, though it has it", () -> { HouseFiddles x = board(0, 0, 0); x.worm(0, 1); x.note(0, 0, 0, 0, 6); due("is", x.is(0), 15); });
    hold("LOOK: none, when no KIND is so", () -> { HouseFiddles x = board(0, 0, 0); x.note(0, 0, 0, 0, 60); due("look", x.look(0), -1); });
    hold("LOOK: of like ones the least: one KIND: 0", () -> { HouseFiddles x = board(0, 50, 0); x.note(0, 0, 0, 0, 10); due("look", x.look(0), 0); });
    hold("LOOK: of like ones the least: two that differ everywhere: 0", () -> { HouseFiddles x = board(0, 50, 0); x.note(0, 0, 9, 2, 0); x.note(0, 0, 5, 3, 0); due("is", x.is(0), 32); x.forget(1); x.note(0, 0, 9, 3, 0); x.note(0, 0, 9, 2, 0); due("is", x.is(0), 37); due("look", x.look(0), 30); });
    hold("LOOK: on STRING 0 STAIR and KITCHEN are unlike: 0", () -> { HouseFiddles x = board(0, 0, 0); x.note(0, 40, 0, 2, 19); due("is", x.is(0), 18); due("look", x.look(0), 0); });
    // what is asked first is one of 0, 20, 21, 30, whatever is left and at each AGE (all of them were gone over)
    hold("LOOK: its AGE and DAMP as they are, at their ends", () -> {
      for (int age : new int[] {0, 99}) {
        for (int damp : new int[] {0, 9}) {
          HouseFiddles x = board(4, age, damp); due("all KINDS", x.look(0), 20);
          x.note(0, 0, 9, 1, 0); due("all but KITCHEN", x.is(0), 47); due("look", x.look(0), 20);
          x.note(0, 0, 9, 2, 0); due("DOOR, SILL, MARBLE", x.is(0), 37); due("look", x.look(0), 30);
        }
      }
    });
    hold("LOOK: 10 s and d: STRING 2, DAMP 1", () -> { HouseFiddles x = board(0, 40, 0); x.note(0, 40, 0, 3, 16); due("is", x.is(0), 19); due("look", x.look(0), 21); });
    hold("LOOK: without WORM", () -> { HouseFiddles x = board(0, 0, 0); x.note(0, 0, 9, 0, 0); x.note(0, 0, 9, 3, 0); due("is", x.is(0), 0b100111); long dry = x.look(0); x.worm(0, 1); due("look", x.look(0), dry); });
    hold("LOOK: without WORM, where halves would be alike", () -> { HouseFiddles x = board(0, 0, 0); x.worm(0, 1); x.note(0, 40, 0, 3, 16); due("is", x.is(0), 19); due("look", x.look(0), 21); });
    hold("WHAT: without MARKS each KIND", () -> due("kinds", of("town;make 0;make 0;make 0;make 0;").kinds(3), 63));
    hold("WHAT: by all MARKS of one, the sixth too, another's not", () -> {
      HouseFiddles x = of("town;make 0;make 0;"); times(5, k -> x.mark(1, 20, 0, 4, 3, 24)); due("kinds(0)", x.kinds(0), 63); due("kinds(1)", x.kinds(1), 16); x.mark(0, 20, 4, 0, 0, 0); due("kinds(0)", x.kinds(0), 8); due("kinds(1)", x.kinds(1), 16);
    });
    hold("WHAT: none", () -> { HouseFiddles x = of("town;make 0;"); x.mark(0, 200, 4, 4, 3, 400); due("kinds", x.kinds(0), 0); });
    hold("ASK: none, when no KIND is so", () -> { HouseFiddles x = of("town;make 0;"); x.mark(0, 0, 0, 0, 0, 1); due("ask", x.ask(0), -1); });
    hold("ASK: of like ones the least: one KIND: 0", () -> { HouseFiddles x = of("town;make 0;"); x.mark(0, 20, 4, 0, 0, 0); due("ask", x.ask(0), 0); });
    hold("ASK: h of 2: by fewest, of like ones the least", () -> due("all KINDS", of("town;make 0;").ask(0), 20));
    hold("ASK: h of 3 parts LENT from TENEMENT", () -> { HouseFiddles x = of("town;make 0;"); x.mark(0, 20, 2, 0, 0, 17); due("kinds", x.kinds(0), 10); due("ask", x.ask(0), 30); });
    hold("ASK: STRING 2 parts CELLO from BASS", () -> { HouseFiddles x = of("town;make 0;"); x.mark(0, 20, 2, 0, 0, 40); due("kinds", x.kinds(0), 36); due("ask", x.ask(0), 200); });
    hold("ASK: x being 20, whatever it PLAYS", () -> { HouseFiddles x = of("town;board 0 99 0 0;make 0;cut 0 0;"); due("ask", x.ask(0), 20); });
  }

  private static void bids() {
    int[] age = {0, 0, 0, 0, 8, 12, 16, 99}, damp = {6, 5, 4, 3, 0, 0, 0, 0};
    HouseFiddles[] x = new HouseFiddles[8];
    for (int k = 0; k < 8; k++) x[k] = of("town;board 0 " + age[k] + " " + damp[k] + " 0;make 0;cut 0 0;");
    hold("BIDS for what PLAYS 0, 1, 2, 3, 8, 9, 10, 30", () -> { row("plays", 8, k -> x[k].plays(0, 0), 0, 1, 2, 3, 8, 9, 10, 30); row("how many", 8, k -> x[k].bids(0, -1), 1, 3, 2, 0, 0, 0, 0, 0); });
    hold("BIDS for what PLAYS 0: neither bids", () -> row("bids", 3, k -> x[0].bids(0, k - 1), 1, 0, -5));
    hold("BIDS for what PLAYS 1: rising; behind the last -5", () -> row("bids", 5, k -> x[1].bids(0, k - 1), 3, 0, 1, 11, -5));
    hold("BIDS for what PLAYS 2: the first one has it, if alike", () -> row("bids", 4, k -> x[2].bids(0, k - 1), 2, 11, 12, -5));
    hold("BIDS for what PLAYS 3 and for what PLAYS more than 9: none rests, -5", () -> { row("bids", 2, k -> x[3].bids(0, k - 1), 0, -5); row("bids", 2, k -> x[7].bids(0, k - 1), 0, -5); });
    hold("BIDS: k as large as may be: -5", () -> due("bids", x[0].bids(0, Integer.MAX_VALUE), -5));
    hold("BIDS without BOARDS: as for 0", () -> { HouseFiddles y = of("town;make 5;"); row("bids", 3, k -> y.bids(0, k - 1), 1, 0, -5); });
    hold("BIDS: by what it PLAYS on STRING 0, twice for a CELLO", () -> { HouseFiddles y = of("town;board 0 0 5 0;make 2;cut 0 0;"); row("bids", 4, k -> y.bids(0, k - 1), 2, 11, 12, -5); });
    hold("BIDS: k below -1 is BAD, as -10; an INSTRUMENT that is not there, too", () -> { due("bids", x[0].bids(0, -2), -10); due("bids", x[0].bids(1, -1), -10); due("bids", x[0].bids(-1, 0), -10); due("status(0)", x[0].status(0), 3); });
  }

  private static void weeps() {
    HouseFiddles two = of("town;board 0 0 0 0;board 0 0 5 1;make 0;cut 0 0;cut 1 0;");
    hold("WEEPS by 0 of 10: as it PLAYS", () -> { due("weeps", two.weeps(0, 0, 0), 1); fraction(two, 7, 1); });
    hold("WEEPS by 10 of 10: each 3 more DAMP", () -> { two.weeps(0, 0, 10); fraction(two, 3, 1); });
    hold("WEEPS: apart, in lowest terms", () -> { two.weeps(0, 0, 5); fraction(two, 5, 1); two.weeps(0, 0, 1); fraction(two, 33, 5); two.weeps(0, 0, 3); fraction(two, 29, 5); });
    hold("WEEPS: 9 at most", () -> {
      row("all weep", 4, k -> { HouseFiddles x = of("town;board 0 16 " + (6 + k) + " 0;make 0;cut 0 0;"); x.weeps(0, 0, 10); return x.part(0); }, 1, 1, 1, 1);
    });
    hold("WEEPS without BOARDS: 0 by 1", () -> { HouseFiddles x = of("town;make 4;board 0 0 0 0;"); two.weeps(0, 0, 1); due("weeps", x.weeps(0, 3, 5), 1); fraction(x, 0, 1); });
    hold("WEEPS: 0 is 0 by 1, behind another one too", () -> { HouseFiddles x = of("town;board 0 0 0 0;board 0 0 9 0;make 0;make 0;cut 0 0;cut 1 1;"); x.weeps(0, 0, 1); fraction(x, 57, 10); x.weeps(1, 0, 1); fraction(x, 0, 1); });
    hold("WEEPS of four BOARDS: below 10000 at most", () -> { HouseFiddles x = of("town;board 0 0 0 0;board 0 0 2 0;board 0 0 3 0;board 0 0 5 0;make 4;cut 0 0;cut 1 0;cut 2 0;cut 3 0;"); x.weeps(0, 0, 1); fraction(x, 16619, 2500); x.weeps(0, 0, 5); fraction(x, 19, 4); });
    hold("WEEPS: the DAMP of none is changed, nor free BOARDS' or another's heard", () -> { HouseFiddles x = of("town;board 0 0 0 0;board 0 0 0 0;board 0 0 0 0;make 0;make 0;cut 0 0;cut 1 1;"); x.weeps(0, 0, 10); fraction(x, 3, 1); due("DAMP", x.count(5), 0); });
    hold("THE FRACTION stays when WEEPS are refused", () -> { two.weeps(0, 0, 1); two.weeps(0, 0, 11); two.weeps(1, 0, 0); fraction(two, 33, 5); });
  }

  private static void generations() {
    HouseFiddles x = of("town;board 0 3 1 0;make 0;cut 0 0;");
    hold("GENERATIONS of 0 YEARS: 0", () -> { due("generations", x.generations(0, 0), 0); due("generations", x.generations(999999, 0), 0); });
    // SEED 0: X is 12345, 1406932606, 654583775, 1449466924: INSTRUMENTS 0, 0, 0, 1 on STRINGS 0, 1, 0, 2
    hold("GENERATIONS: X changes ahead of the first YEAR, it is PLAYED ahead of the YEAR", () -> due("generations", x.generations(0, 1), 5));
    hold("GENERATIONS: a YEAR goes by between", () -> { due("generations", x.generations(0, 2), 12); due("generations", x.generations(0, 3), 19); });
    // the only SEEDS by which the first X is a whole number of 1048576 (1605 of them), or one less (than 193)
    hold("GENERATIONS: cut, at its ends", () -> {
      HouseFiddles y = of("town;board 4 0 0 0;board 4 4 0 0;make 0;make 0;make 0;make 0;cut 0 0;cut 1 3;");
      due("INSTRUMENT 0 on STRING 1", y.generations(501379, 1), 6); due("INSTRUMENT 3 on STRING 0", y.generations(899870, 1), 11);
    });
    hold("GENERATIONS: what is not there adds none", () -> due("generations", x.generations(0, 4), 19));
    hold("GENERATIONS: by STRING and INSTRUMENT", () -> { HouseFiddles y = of("town;board 0 0 0 0;board 1 0 0 0;make 2;make 0;cut 0 0;cut 1 1;"); row("generations", 5, n -> y.generations(0, n), 0, 12, 18, 30, 39); });
    hold("GENERATIONS: YEARS go beyond 999", () -> { HouseFiddles y = Scenes.late(999, "board 0 3 1 0;make 0;cut 0 0;"); due("generations", y.generations(0, 3), 19); due("count(2)", y.count(2), 999); });
    hold("GENERATIONS: the last SEED, the last YEARS", () -> {
      HouseFiddles y = of("town;board 0 3 9 0;board 4 8 0 1;board 2 9 3 2;board 3 0 0 3;make 0;make 2;make 5;make 4;cut 0 0;cut 1 1;cut 2 2;cut 3 3;");
      for (int seed : new int[] {0, 999999}) {
        long v = seed, all = 0;
        for (int n = 0; n < 60; n++) {
          v = (v * 1103515245L + 12345) % 2147483648L;
          all += y.then((int) (v / 65536 % 4), (int) (v / 1048576 % 4), n);
        }
        due("generations of " + seed, y.generations(seed, 60), all);
      }
    });
  }

  private static void digest() {
    hold("digest of a town where all is full", () -> {
      HouseFiddles x = new HouseFiddles();
      times(6, b -> x.board(5 - b, 90 + b, 9 - b, b % 4)); times(4, i -> x.make(5 - i)); times(5, y -> x.wet(y, 4 - y)); x.worm(5, 1);
      times(6, k -> { x.heard(k % 4, 60 - k); x.note(k, 99 - k, 9 - k, k % 4, 55 + k); x.mark(k % 4, 200 - k, k % 5, 4 - k % 5, k % 4, 400 - k); });
      times(8, k -> x.cuts(k % 6, 3)); x.type(116);
      long[] due = {6, 4, 0, 2, 1, 39, 6, 6, 6, 4, 1, 4, 3, 2, 1, 0, 5, 90, 9, 0, 0, 3, 4, 91, 8, 1, 0, 3, 3, 92, 7, 2, 0, 3, 2, 93, 6, 3, 0, 3, 1, 94, 5, 0, 0, -1, 0, 95, 4, 1, 1, -1, 5, 4, 3, 2,
        0, 60, 1, 59, 2, 58, 3, 57, 0, 56, 1, 55, 0, 99, 9, 0, 55, 1, 98, 8, 1, 56, 2, 97, 7, 2, 57, 3, 96, 6, 3, 58, 4, 95, 5, 0, 59, 5, 94, 4, 1, 60,
        0, 200, 0, 4, 0, 400, 1, 199, 1, 3, 1, 399, 2, 198, 2, 2, 2, 398, 3, 197, 3, 1, 3, 397, 0, 196, 4, 0, 0, 396, 1, 195, 0, 4, 1, 395, 0, 1};
      due("digest", x.digest(), Scenes.mixed(due));
    });
    hold("digest: the last values are THE FRACTION, above then below", () -> { HouseFiddles x = of("town;board 0 0 0 0;make 0;cut 0 0;"); x.weeps(0, 0, 1); due("digest", x.digest(), Scenes.mixed(1, 1, 0, 0, 0, 0, 0, 0, 0, 0, 34, 0, 0, 0, 0, 0, 0, 0, 0, 0, 0, 0, 0, 57, 10)); });
    hold("count(3), count(4), count(5) at their least and their most", () -> {
      HouseFiddles x = of("town;" + "board 0 0 9 0;".repeat(6) + "make 0;make 0;"); row("count", 3, k -> x.count(3 + k), 6, 0, 54);
      times(6, b -> { x.cuts(b, b / 3); x.worm(b, 1); x.dries(b, 9); }); row("count", 3, k -> x.count(3 + k), 0, 6, 0);
    });
  }

  public static void main(String[] args) {
    nothingYet();
    asTheyCome();
    years();
    worm();
    cutting();
    undo();
    images();
    sounds();
    plays();
    later();
    tune();
    make();
    together();
    whose();
    kinds();
    bids();
    weeps();
    generations();
    digest();
    cases.end();
  }
}
