import java.util.function.Supplier;
import java.util.function.ToLongFunction;

/** What is refused as NO and as FULL, which reason is the first, what STATUS counts, and that nothing else changes. */
public final class Refusals {
  private static final int BAD = -2, NO = -3, FULL = -4;
  private static final Cases cases = new Cases("refusals");

  /** The call's answer; STATUS has one more of that sort (or none, if the answer is none of those told); all else stays. */
  private static void stays(String sentence, Supplier<HouseFiddles> made, ToLongFunction<HouseFiddles> call, long answer, int bad, int no, int full) {
    cases.hold(sentence, () -> {
      HouseFiddles x = made.get(), untouched = made.get();
      int[] before = {x.status(0), x.status(1), x.status(2)};
      cases.due("the call", call.applyAsLong(x), answer);
      cases.same("STATUS", Scenes.refused(x), before[0] + bad + " BAD, " + (before[1] + no) + " NO, " + (before[2] + full) + " FULL");
      cases.same("all else", Scenes.all(x), Scenes.all(untouched));
    });
  }
  private static void refused(String sentence, Supplier<HouseFiddles> made, ToLongFunction<HouseFiddles> call, int answer) {
    stays(sentence, made, call, answer, answer == BAD ? 1 : 0, answer == NO ? 1 : 0, answer == FULL ? 1 : 0);
  }
  private static Supplier<HouseFiddles> text(String text) { return () -> Scenes.of(text); }

  private static Supplier<HouseFiddles> dry() { return text("town;board 0 0 0 0;board 0 0 1 0;make 0;make 0;cut 1 1;"); }

  private static void noes() {
    refused("cuts: NO: not free: IN another", Scenes::some, x -> x.cuts(0, 1), NO);
    refused("cuts: NO: not free: IN the same", Scenes::some, x -> x.cuts(0, 0), NO);
    refused("takes: NO: free", Scenes::some, x -> x.takes(1), NO);
    refused("dries: NO: it is 0, n is 1", dry(), x -> x.dries(0, 1), NO);
    refused("dries: NO: it is 0, n is 9", dry(), x -> x.dries(0, 9), NO);
    refused("undo: NO: none may be, on a new object", HouseFiddles::new, HouseFiddles::undo, NO);
    refused("undo: NO: none may be, behind a town read", dry(), HouseFiddles::undo, NO);
    refused("from: NO: none was kept, of neither", HouseFiddles::new, x -> x.from(0), NO);
    refused("from: NO: none was kept, of neither (1)", HouseFiddles::new, x -> x.from(1), NO);
    Supplier<HouseFiddles> first = () -> { HouseFiddles x = dry().get(); x.image(0); return x; };
    Supplier<HouseFiddles> second = () -> { HouseFiddles x = dry().get(); x.image(1); return x; };
    refused("from: NO: none was kept as 1, one as 0", first, x -> x.from(1), NO);
    refused("from: NO: none was kept as 0, one as 1", second, x -> x.from(0), NO);
  }

  private static void fulls() {
    refused("board: FULL: 6", Scenes::full, x -> x.board(0, 0, 0, 0), FULL);
    refused("board: FULL: 6, the last numbers that are told", Scenes::full, x -> x.board(5, 99, 9, 3), FULL);
    refused("make: FULL: 4", Scenes::full, x -> x.make(0), FULL);
    refused("make: FULL: 4, the last KIND", Scenes::full, x -> x.make(5), FULL);
    refused("type: FULL: 150", Scenes::full, x -> x.type(0), FULL);
    refused("type: FULL: 150, the last byte", Scenes::full, x -> x.type(127), FULL);
    refused("cuts: FULL: 4", Scenes::full, x -> x.cuts(4, 0), FULL);
    refused("heard: FULL: 6", Scenes::full, x -> x.heard(3, 60), FULL);
    refused("note: FULL: 6, also of BOARDS of none", () -> { HouseFiddles x = Scenes.full(); x.forget(1); for (int k = 0; k < 6; k++) x.note(0, 0, 0, 0, 0); return x; },
        x -> x.note(5, 99, 9, 3, 60), FULL);
    refused("mark: FULL: 6", Scenes::full, x -> x.mark(3, 200, 4, 4, 3, 400), FULL);
  }

  private static void firstReason() {
    refused("BAD ahead of FULL: board", Scenes::full, x -> x.board(0, 0, 0, 4), BAD);
    refused("BAD ahead of FULL: make", Scenes::full, x -> x.make(6), BAD);
    refused("BAD ahead of FULL: type", Scenes::full, x -> x.type(128), BAD);
    refused("BAD ahead of FULL: heard", Scenes::full, x -> x.heard(0, 61), BAD);
    refused("BAD ahead of FULL: note", Scenes::full, x -> x.note(0, 0, 0, 0, 61), BAD);
    refused("BAD ahead of FULL: mark", Scenes::full, x -> x.mark(0, 0, 0, 0, 0, 401), BAD);
    refused("BAD ahead of FULL: cuts of no BOARD", Scenes::full, x -> x.cuts(6, 0), BAD);
    refused("BAD ahead of NO: cuts for no INSTRUMENT", Scenes::full, x -> x.cuts(0, 4), BAD);
    refused("NO ahead of FULL: cuts", Scenes::full, x -> x.cuts(0, 0), NO);
    refused("NO ahead of FULL: cuts of one that is IN another", () -> { HouseFiddles x = Scenes.full(); x.cuts(4, 1); return x; }, x -> x.cuts(4, 0), NO);
    refused("BAD ahead of NO: dries", dry(), x -> x.dries(0, 0), BAD);
    refused("BAD ahead of NO: dries by too many", dry(), x -> x.dries(0, 10), BAD);
    refused("BAD ahead of NO: from", HouseFiddles::new, x -> x.from(2), BAD);
    stays("BAD -10 ahead of NONE: best without INSTRUMENTS", text("town;board 0 0 0 0;"), x -> x.best(0, 1), -10, 1, 0, 0);
    stays("BAD -10 ahead of NONE: best on no STRING", HouseFiddles::new, x -> x.best(4, -1), -10, 1, 0, 0);
    stays("BAD -10 ahead of -5: bids", HouseFiddles::new, x -> x.bids(0, 99), -10, 1, 0, 0);
  }

  /** Answers that are none of BAD, NO, FULL count as none. */
  private static void uncounted() {
    stays("read: -10 less the FAULT is no BAD, of a place", () -> { HouseFiddles x = Scenes.some(); Scenes.type(x, "town;make 6;"); return x; }, HouseFiddles::read, -20, 0, 0, 0);
    stays("read: a FAULT at 0 answers -10, but is no BAD", () -> { HouseFiddles x = Scenes.full(); x.clear(); return x; }, HouseFiddles::read, -10, 0, 0, 0);
    stays("bids: -5 is no BAD, NO, FULL", Scenes::some, x -> x.bids(0, 100), -5, 0, 0, 0);
    stays("waits: NONE is not refused", Scenes::some, x -> x.waits(2, 0, 60), -1, 0, 0, 0);
    stays("dry: NONE is not refused", Scenes::some, x -> x.dry(0, 0, 200), -1, 0, 0, 0);
    stays("tune: NONE is not refused", Scenes::some, x -> x.tune(0, 0, 200), -1, 0, 0, 0);
    stays("best: NONE (no INSTRUMENTS) is not refused", text("town;board 0 0 0 0;"), x -> x.best(3, 0), -1, 0, 0, 0);
    stays("best: NONE (free) is not refused", text("town;board 0 0 0 0;make 0;make 0;"), x -> x.best(0, 0), -1, 0, 0, 0);
    stays("tells: NONE is not refused", HouseFiddles::new, HouseFiddles::tells, -1, 0, 0, 0);
    stays("look: NONE is not refused", () -> { HouseFiddles x = Scenes.some(); x.note(0, 0, 0, 0, 60); return x; }, x -> x.look(0), -1, 0, 0, 0);
    stays("ask: NONE is not refused", () -> { HouseFiddles x = Scenes.some(); x.mark(1, 0, 0, 0, 0, 400); return x; }, x -> x.ask(1), -1, 0, 0, 0);
    stays("of: IN NONE is not refused", Scenes::some, x -> x.of(1, 5), -1, 0, 0, 0);
    stays("status: its own answers count as none", Scenes::some, x -> x.status(0) + x.status(1) + x.status(2), 0, 0, 0, 0);
  }

  /** Nothing is changed by what is asked. */
  private static void asking() {
    asks("of", x -> x.of(0, 5)); asks("about", x -> x.about(0, 2)); asks("sounds", x -> x.sounds(0, 3)); asks("plays", x -> x.plays(0, 3));
    asks("then", x -> x.then(0, 3, 60)); asks("waits", x -> x.waits(1, 3, 60)); asks("dry", x -> x.dry(0, 3, 30)); asks("tune", x -> x.tune(1, 3, 20));
    asks("best", x -> x.best(3, 1)); asks("best (how much)", x -> x.best(3, -1)); asks("together", x -> x.together(1, 3)); asks("orchestra", HouseFiddles::orchestra);
    asks("whose", HouseFiddles::whose); asks("tells", HouseFiddles::tells); asks("is", x -> x.is(1)); asks("look", x -> x.look(1));
    asks("kinds", x -> x.kinds(0)); asks("ask", x -> x.ask(0)); asks("bids", x -> x.bids(0, 0)); asks("bids (how many)", x -> x.bids(0, -1));
    asks("generations", x -> x.generations(999999, 60)); asks("part", x -> x.part(0)); asks("count", x -> x.count(9)); asks("digest", HouseFiddles::digest);
  }
  private static void asks(String call, ToLongFunction<HouseFiddles> asked) {
    for (Supplier<HouseFiddles> made : java.util.List.<Supplier<HouseFiddles>>of(Scenes::some, Scenes::full)) {
      cases.hold("nothing is changed by " + call + ", asked twice it answers the same", () -> {
        HouseFiddles x = made.get(), untouched = made.get();
        long first = asked.applyAsLong(x);
        cases.due("again", asked.applyAsLong(x), first);
        cases.same("STATUS", Scenes.refused(x), Scenes.refused(untouched));
        cases.same("all", Scenes.all(x), Scenes.all(untouched));
      });
    }
  }

  private static void counted() {
    cases.hold("each refused call is counted once, by its reason", () -> {
      HouseFiddles x = Scenes.full();
      for (int k = 1; k <= 3; k++) { x.make(9); cases.same("STATUS", Scenes.refused(x), k + " BAD, 0 NO, 0 FULL"); }
      for (int k = 1; k <= 3; k++) { x.cuts(0, 0); cases.same("STATUS", Scenes.refused(x), "3 BAD, " + k + " NO, 0 FULL"); }
      for (int k = 1; k <= 3; k++) { x.make(0); cases.same("STATUS", Scenes.refused(x), "3 BAD, 3 NO, " + k + " FULL"); }
    });
    cases.hold("status: another what answers -1 and counts as BAD", () -> {
      HouseFiddles x = new HouseFiddles();
      cases.due("status(3)", x.status(3), -1); cases.due("status(0)", x.status(0), 1);
      cases.due("status(-1)", x.status(-1), -1); cases.due("status(0)", x.status(0), 2);
      cases.due("status(1)", x.status(1), 0); cases.due("status(2)", x.status(2), 0);
    });
    cases.hold("STATUS stays when all is as at first, when a town is read, when it goes on from an IMAGE", () -> {
      HouseFiddles x = Scenes.some();
      x.image(0); x.make(9); x.takes(1); for (int k = 0; k < 3; k++) x.make(0);
      String due = "1 BAD, 1 NO, 1 FULL";
      cases.same("STATUS", Scenes.refused(x), due);
      x.from(0); cases.same("STATUS", Scenes.refused(x), due);
      x.town(); cases.same("STATUS", Scenes.refused(x), due);
      x.read(); cases.same("STATUS", Scenes.refused(x), due);
    });
  }

  public static void main(String[] args) {
    noes();
    fulls();
    firstReason();
    uncounted();
    asking();
    counted();
    cases.end();
  }
}
