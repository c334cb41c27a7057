/** Each promise of the document: ordinary calls, the edges that it names, wrong calls. */
public final class Promises {
  private static final int LOW = Integer.MIN_VALUE, HIGH = Integer.MAX_VALUE;
  private static int passed, failed, promise;

  private static void due(String what, long got, long want) {
    if (got == want) { passed++; return; }
    failed++;
    System.out.println("promise " + promise + ": " + what + " answered " + got + ", due is " + want);
  }
  private static void type(HouseFiddles x, String text) {
    x.clear();
    for (int k = 0; k < text.length(); k++) x.type(text.charAt(k));
  }
  private static int read(HouseFiddles x, String text) { type(x, text); return x.read(); }
  private static HouseFiddles of(String text) {
    HouseFiddles x = new HouseFiddles();
    if (read(x, text) < 0) throw new IllegalStateException(text);
    return x;
  }
  /** The text is refused for its FAULT, and all stays. */
  private static void fault(String text, int place) {
    HouseFiddles x = of("town;wet 1 2 3 4;board 1 20 3 2;make 2;cut 0 0;years 1;");
    x.heard(0, 1); x.note(0, 1, 1, 1, 1); x.mark(0, 1, 1, 1, 1, 1); x.year(1);
    type(x, text);
    long before = x.digest();
    due("read of '" + text + "'", x.read(), -10 - place);
    due("digest behind '" + text + "'", x.digest(), before);
    due("BAD behind '" + text + "'", x.status(0) + x.status(1) + x.status(2), Math.max(0, text.length() - 150));
  }
  private static void refused(HouseFiddles x, int bad, int no, int full) {
    due("status(0)", x.status(0), bad);
    due("status(1)", x.status(1), no);
    due("status(2)", x.status(2), full);
  }
  private static void fraction(HouseFiddles x, long above, long below) {
    due("part(0)", x.part(0), above);
    due("part(1)", x.part(1), below);
  }

  private static void p1() {
    HouseFiddles x = new HouseFiddles();
    for (int w = 0; w <= 10; w++) due("count(" + w + ")", x.count(w), 0);
    for (int y = 0; y < 5; y++) due("wet(y, 0)", x.wet(y, 0), 0);
    fraction(x, 0, 1);
    due("from(0)", x.from(0), -3);
    due("from(1)", x.from(1), -3);
    refused(x, 0, 2, 0);
    due("digest()", new HouseFiddles().digest(), Scenes.mixed(0, 0, 0, 0, 0, 0, 0, 0, 0, 0, 0, 0, 0, 0, 0, 0, 0, 1));
    due("NONE", HouseFiddles.NONE, -1); due("BAD", HouseFiddles.BAD, -2);
    due("NO", HouseFiddles.NO, -3); due("FULL", HouseFiddles.FULL, -4);
    HouseFiddles other = new HouseFiddles();
    other.board(0, 0, 0, 0); other.image(0);
    due("of another object", new HouseFiddles().count(0), 0);
    due("from of another object", new HouseFiddles().from(0), -3);
  }
  private static void p2() {
    HouseFiddles x = of("town;wet 1 2 3 4 1;board 1 2 3 1;board 2 3 4 2;make 4;cut 0 0;worm 1;years 3;");
    x.image(1); x.weeps(0, 0, 5);
    long above = x.part(0), below = x.part(1);
    x.heard(0, 0); x.note(0, 0, 0, 0, 0); x.mark(0, 0, 0, 0, 0, 0); x.year(1); x.board(9, 0, 0, 0); x.undo(); x.undo();
    int bytes = x.count(10);
    due("town()", x.town(), 2);
    for (int w = 0; w <= 9; w++) due("count(" + w + ")", x.count(w), 0);
    due("bytes", x.count(10), bytes);
    fraction(x, above, below);
    refused(x, 1, 1, 0);
    for (int y = 0; y < 5; y++) due("wet(y, 1)", x.wet(y, 1), 0);
    due("from(1)", x.from(1), 1);
    due("boards again", x.count(0), 2);
    due("town()", x.town(), 2);
    due("town()", x.town(), 0);
    due("best without INSTRUMENTS", x.best(0, -1), -1);
  }
  private static void p3() {
    HouseFiddles x = new HouseFiddles();
    due("wet(0, 4)", x.wet(0, 4), 0); due("wet(0, 3)", x.wet(0, 3), 4); due("wet(0, 0)", x.wet(0, 0), 3);
    due("wet(4, 2)", x.wet(4, 2), 0); due("wet(4, 2)", x.wet(4, 2), 2); due("wet(1, 1)", x.wet(1, 1), 0);
    int[][] wrong = {{-1, 0}, {5, 0}, {0, -1}, {0, 5}, {LOW, 0}, {HIGH, 0}, {0, LOW}, {0, HIGH}};
    long before = x.digest();
    for (int[] w : wrong) due("wet(" + w[0] + ", " + w[1] + ")", x.wet(w[0], w[1]), -2);
    due("digest()", x.digest(), before);
    refused(x, 8, 0, 0);
    due("digest()", x.digest(), Scenes.mixed(0, 0, 0, 0, 0, 0, 0, 0, 0, 0, 0, 0, 1, 0, 0, 2, 0, 1));
    HouseFiddles y = new HouseFiddles();
    y.wet(0, 3); y.wet(1, 4); y.board(0, 0, 0, 0); y.year(1);
    due("DAMP", y.of(0, 2), 3);
    y.year(1);
    due("DAMP", y.of(0, 2), 7);
    y.year(3); y.dries(0, 9); y.year(1);
    due("DAMP of year 5, that of 0", y.of(0, 2), 3);
  }
  private static void p4() {
    HouseFiddles x = new HouseFiddles();
    int[][] wrong = {{-1, 0, 0, 0}, {6, 0, 0, 0}, {0, -1, 0, 0}, {0, 100, 0, 0}, {0, 0, -1, 0}, {0, 0, 10, 0},
      {0, 0, 0, -1}, {0, 0, 0, 4}, {LOW, 0, 0, 0}, {HIGH, 0, 0, 0}, {0, HIGH, 0, 0}, {0, 0, LOW, 0}, {0, 0, 0, HIGH}};
    for (int[] w : wrong) due("board", x.board(w[0], w[1], w[2], w[3]), -2);
    due("board(5, 99, 9, 3)", x.board(5, 99, 9, 3), 0);
    for (int b = 1; b < 6; b++) due("board " + b, x.board(b - 1, 10 * b, b, b % 4), b);
    due("a 7th", x.board(0, 0, 0, 0), -4);
    due("a 7th, not as told", x.board(6, 0, 0, 0), -2);
    refused(x, 14, 0, 1);
    int[] first = {5, 99, 9, 3, 0, -1}, third = {1, 20, 2, 2, 0, -1};
    for (int w = 0; w < 6; w++) { due("of(0, " + w + ")", x.of(0, w), first[w]); due("of(2, " + w + ")", x.of(2, w), third[w]); }
    due("count(0)", x.count(0), 6);
    x.worm(0, 1); x.make(0); x.cuts(0, 0); x.town();
    x.board(0, 0, 0, 0);
    due("WORM of a new one", x.of(0, 4), 0);
    due("IN of a new one", x.of(0, 5), -1);
  }
  private static void p5() {
    HouseFiddles x = new HouseFiddles();
    for (int w : new int[] {-1, 6, LOW, HIGH}) due("make", x.make(w), -2);
    for (int i = 0; i < 4; i++) due("make(" + (5 - i) + ")", x.make(5 - i), i);
    due("a 5th", x.make(0), -4);
    due("a 5th, not as told", x.make(6), -2);
    for (int i = 0; i < 4; i++) due("KIND", x.about(i, 0), 5 - i);
    refused(x, 5, 0, 1);
    due("count(1)", x.count(1), 4);
  }
  private static void p6() {
    HouseFiddles x = new HouseFiddles();
    due("worm(0, 1)", x.worm(0, 1), -2);
    x.board(0, 40, 0, 0); x.board(0, 40, 0, 0);
    due("worm(1, 0)", x.worm(1, 0), 0); due("worm(1, 1)", x.worm(1, 1), 0); due("worm(1, 1)", x.worm(1, 1), 1);
    due("WORM", x.of(1, 4), 1); due("the other's", x.of(0, 4), 0);
    due("count(4)", x.count(4), 1);
    due("worm(1, 0)", x.worm(1, 0), 1); due("WORM", x.of(1, 4), 0);
    int[][] wrong = {{-1, 0}, {2, 0}, {0, -1}, {0, 2}, {HIGH, 1}, {LOW, 1}, {1, HIGH}};
    for (int[] w : wrong) due("worm", x.worm(w[0], w[1]), -2);
    refused(x, 8, 0, 0);
  }
  private static void p7() {
    HouseFiddles x = new HouseFiddles();
    for (int w : new int[] {-1, 128, LOW, HIGH}) due("type", x.type(w), -2);
    due("type(0)", x.type(0), 1); due("type(127)", x.type(127), 2);
    for (int k = 3; k <= 150; k++) due("type", x.type('a'), k);
    due("a 151st", x.type('a'), -4);
    due("a 151st, not as told", x.type(128), -2);
    due("count(10)", x.count(10), 150);
    refused(x, 5, 0, 1);
  }
  private static void p8() {
    HouseFiddles x = new HouseFiddles();
    due("clear()", x.clear(), 0);
    type(x, "town;board");
    due("clear()", x.clear(), 10); due("clear()", x.clear(), 0); due("count(10)", x.count(10), 0);
    due("read()", x.read(), -10);
    type(x, "town;");
    due("read of a shorter one", x.read(), 1);
  }
  private static void p9() {
    due("town alone", read(new HouseFiddles(), "town;"), 1);
    due("blanks", read(new HouseFiddles(), "  town ;  wet  1   2 ; make5;  "), 3);
    due("no blank", read(new HouseFiddles(), "town;wet0 4;board0 01 9 3;make0;cut0 0;worm0;years1;"), 7);
    HouseFiddles x = new HouseFiddles();
    x.board(0, 0, 0, 0); x.make(0); x.year(2); x.heard(0, 0); x.note(0, 0, 0, 0, 0); x.mark(0, 0, 0, 0, 0, 0); x.wet(4, 4);
    x.image(0); x.cuts(0, 0);
    due("read()", read(x, "town;wet 1 2;board 3 12 4 2;board 5 99 0 3;make 4;cut 1 0;worm 1;wet 3;years 99;wet 0 1 2 3 4;"), 10);
    int[][] boards = {{3, 99, 9, 2, 0, -1}, {5, 99, 0, 3, 1, 0}};
    for (int b = 0; b < 2; b++) for (int w = 0; w < 6; w++) due("of(" + b + ", " + w + ")", x.of(b, w), boards[b][w]);
    int[] counts = {2, 1, 99, 1, 1, 9, 0, 0, 0, 0};
    for (int w = 0; w <= 9; w++) due("count(" + w + ")", x.count(w), counts[w]);
    for (int y = 0; y < 5; y++) due("wet", x.wet(y, 0), y);
    x.from(0);
    due("the image still", x.count(2), 2);
    due("wet told at times", of("town;board 0 0 0 0;wet 1;years 1;wet 0 3;years 1;").of(0, 2), 4);
    due("wet told at times", of("town;wet 1 1;board 0 0 0 0;years 1;wet 0;years 1;").of(0, 2), 2);
    due("years at the last", of("town;years 99;years 99;years 99;years 99;years 99;years 99;years 99;years 99;years 99;years 99;years 99;").count(2), 999);
    due("six and four", read(new HouseFiddles(),
        "town;board 0 0 0 0;board 0 0 0 0;board 0 0 0 0;board 0 0 0 0;board 0 0 0 0;board 0 0 0 0;make 0;make 0;make 0;make 0;"), 11);
    fault("", 0); fault("   ", 3); fault("town", 4); fault("town  ", 6); fault("tow", 0); fault("towns;", 0); fault(" Town;", 1);
    fault(";", 0); fault("1", 0); fault("wet 0;", 0); fault("make 0;town;", 0); fault(" board 0 0 0 0;", 1); fault("-", 0);
    fault("town;;", 5); fault("town;town;", 5); fault("town;make 0;town;", 12); fault("town town;", 5); fault("town 1;", 5);
    fault("town;5;", 5); fault("town;made 0;", 5); fault("town;wetx 0;", 5); fault("town;years", 10); fault("town;years 1", 12);
    fault("town;years 0;", 11); fault("town;years 100;", 11); fault("town;years 00;", 11); fault("town;years 1 1;", 13);
    fault("town;wet;", 8); fault("town;wet", 8); fault("town;wet 5;", 9); fault("town;wet 1 2 3 4 0 1;", 19); fault("town;wet 1 2 3 4 0", 18);
    fault("town;wet 0 000;", 11); fault("town;wet 12;", 9); fault("town;wet 1 make", 11);
    fault("town;board 6 0 0 0;", 11); fault("town;board 0 100 0 0;", 13); fault("town;board 0 0 10 0;", 15); fault("town;board 0 0 0 4;", 17);
    fault("town;board 0 0 0;", 16); fault("town;board 0 0 0 0 0;", 19); fault("town;board 0;", 12); fault("town;board 0 0 0 x;", 17);
    fault("town;make 6;", 10); fault("town;make;", 9); fault("town;make 0make 1;", 11);
    fault("town;make 0;make 0;make 0;make 0;make 9;", 33);
    fault("town;board 0 0 0 0;board 0 0 0 0;board 0 0 0 0;board 0 0 0 0;board 0 0 0 0;board 0 0 0 0;board 9;", 89);
    fault("town;cut 0 0;", 9); fault("town;board 0 0 0 0;cut 0 0;", 25); fault("town;make 0;cut 0 0;", 16);
    fault("town;board 0 0 0 0;make 0;cut 1 0;", 30); fault("town;board 0 0 0 0;make 0;cut 0 1;", 32);
    fault("town;board 0 0 0 0;make 0;cut 0 0;cut 0 0;", 38); fault("town;board 0 0 0 0;make 0;cut 0 0", 33);
    fault("town;board 0 0 0 0;board 0 0 0 0;board 0 0 0 0;board 0 0 0 0;board 0 0 0 0;make 0;cut 0 0;cut 1 0;cut 2 0;cut 3 0;cut 4 0;", 120);
    fault("town;worm 0;", 10); fault("town;board 0 0 0 0;worm 1;", 24); fault("town;worm", 9);
    fault("town;make 0;" + (char) 0, 12); fault("town;make 0,", 11); fault("town;make \n0;", 10); fault("town;make 0;{", 12);
    fault("town;make 0;`", 12); fault("town;make 0/", 11); fault("town;make 0:", 11); fault("town;make 0<", 11);
    fault("town;make 0;make 1; 999", 20);
    fault("town;" + " ".repeat(144) + "make 0", 149);
  }
  private static void p10() {
    HouseFiddles x = of("town;wet 1 4;board 0 98 2 0;board 0 5 1 0;board 0 5 8 0;board 0 5 3 0;make 0;cut 1 0;cut 3 0;worm 0;");
    due("year(1)", x.year(1), 1);
    int[][] first = {{99, 3, 1}, {6, 0, 0}, {6, 9, 0}, {6, 2, 0}};
    for (int b = 0; b < 4; b++) for (int w = 0; w < 2; w++) due("of", x.of(b, w + 1), first[b][w]);
    due("year(1)", x.year(1), 1);
    due("AGE", x.of(0, 1), 99); due("DAMP", x.of(0, 2), 7); due("DAMP", x.of(1, 2), 0); due("DAMP", x.of(2, 2), 9); due("DAMP", x.of(3, 2), 1);
    due("count(2)", x.count(2), 2);
    for (int w : new int[] {-1, 0, 61, LOW, HIGH}) due("year", x.year(w), -2);
    due("count(2)", x.count(2), 2); due("count(9)", x.count(9), 2);
    due("year(60)", x.year(60), 1); due("count(2)", x.count(2), 62); due("count(9)", x.count(9), 3);

    HouseFiddles worms = of("town;board 0 0 0 0;board 0 0 0 0;board 0 0 0 0;board 0 0 0 0;board 0 0 0 0;board 0 0 0 0;make 0;make 0;cut 1 0;cut 2 0;cut 4 1;worm 2;");
    due("year(1)", worms.year(1), 2);
    due("from 2 to 1", worms.of(1, 4), 1); due("not to 3", worms.of(3, 4), 0);
    due("year(9)", worms.year(9), 2);
    worms.takes(1); worms.takes(2);
    due("two more, one to each side", worms.year(1), 4); due("0", worms.of(0, 4), 1); due("3", worms.of(3, 4), 1);
    due("not through another's", worms.year(9), 4);
    worms.takes(4);
    due("one a YEAR", worms.year(1), 5); due("4", worms.of(4, 4), 1); due("5", worms.of(5, 4), 0); due("6 of 6", worms.year(1), 6);
    HouseFiddles row = of("town;board 0 0 0 0;board 0 0 0 0;board 0 0 0 0;board 0 0 0 0;board 0 0 0 0;board 0 0 0 0;worm 0;");
    for (int n = 2; n <= 6; n++) due("all at once", row.year(1), n);
    HouseFiddles other = of("town;board 0 0 0 0;board 0 0 0 0;make 0;make 0;cut 0 0;cut 1 1;worm 0;");
    due("not to another INSTRUMENT", other.year(5), 1);

    HouseFiddles last = of("town;board 0 1 0 0;wet 1 1 1 1 1;years 99;years 99;years 99;years 99;years 99;years 99;years 99;years 99;years 99;years 99;");
    last.year(8);
    due("count(2)", last.count(2), 998); last.dries(0, 9); last.year(5);
    due("count(2)", last.count(2), 999); due("DAMP", last.of(0, 2), 1); last.year(1);
    due("count(2)", last.count(2), 999); due("DAMP", last.of(0, 2), 1); due("also if none goes by", last.count(9), 4);
  }
  private static void p11() {
    HouseFiddles x = of("town;board 0 0 0 0;board 0 0 0 0;board 0 0 0 0;board 0 0 0 0;board 0 0 0 0;board 0 0 0 0;make 0;make 0;");
    for (int b = 0; b < 4; b++) { due("cuts", x.cuts(b, 0), b + 1); due("IN", x.of(b, 5), 0); }
    due("a 5th", x.cuts(4, 0), -4); due("not free", x.cuts(0, 0), -3); due("not free", x.cuts(0, 1), -3);
    due("cuts(4, 1)", x.cuts(4, 1), 1); due("IN", x.of(4, 5), 1); due("count(3)", x.count(3), 1); due("count(9)", x.count(9), 5);
    int[][] wrong = {{-1, 0}, {6, 0}, {0, -1}, {0, 2}, {5, -1}, {LOW, 0}, {HIGH, 0}, {5, HIGH}, {5, LOW}};
    for (int[] w : wrong) due("cuts(" + w[0] + ", " + w[1] + ")", x.cuts(w[0], w[1]), -2);
    due("IN", x.of(5, 5), -1); due("count(9)", x.count(9), 5);
    refused(x, 9, 2, 1);
  }
  private static void p12() {
    HouseFiddles x = of("town;board 0 0 0 0;board 0 0 0 0;make 0;make 0;cut 1 1;");
    due("takes(0)", x.takes(0), -3); due("takes(1)", x.takes(1), 1); due("IN", x.of(1, 5), -1); due("takes(1)", x.takes(1), -3);
    for (int w : new int[] {-1, 2, LOW, HIGH}) due("takes", x.takes(w), -2);
    refused(x, 4, 2, 0); due("count(9)", x.count(9), 1); due("count(3)", x.count(3), 2);
    x.cuts(0, 0); due("takes(0)", x.takes(0), 0);
  }
  private static void p13() {
    HouseFiddles x = of("town;board 0 0 7 0;board 0 0 9 0;");
    due("dries(0, 3)", x.dries(0, 3), 4); due("DAMP", x.of(0, 2), 4); due("dries(0, 5)", x.dries(0, 5), 0);
    due("it is 0", x.dries(0, 1), -3); due("it is 0, not as told", x.dries(0, 0), -2); due("dries(1, 9)", x.dries(1, 9), 0);
    int[][] wrong = {{-1, 1}, {2, 1}, {1, 0}, {1, 10}, {1, -1}, {HIGH, 1}, {1, HIGH}, {1, LOW}};
    for (int[] w : wrong) due("dries", x.dries(w[0], w[1]), -2);
    refused(x, 9, 1, 0); due("count(9)", x.count(9), 3); due("count(5)", x.count(5), 0);
  }
  private static void p14() {
    HouseFiddles x = of("town;wet 2 2 2 2 2;board 0 10 5 0;board 1 10 5 0;make 0;worm 0;");
    due("undo()", x.undo(), -3);
    long start = x.digest();
    x.cuts(0, 0); x.dries(1, 2); x.year(3); x.takes(0);
    due("count(9)", x.count(9), 4);
    due("undo of TAKING OUT", x.undo(), 3); due("IN", x.of(0, 5), 0); due("DAMP", x.of(0, 2), 2);
    due("undo of YEARS", x.undo(), 0); due("DAMP", x.of(0, 2), 5); due("AGE", x.of(0, 1), 10); due("DAMP", x.of(1, 2), 3);
    due("undo of DRYING", x.undo(), 0); due("DAMP", x.of(1, 2), 5);
    due("undo of CUTTING", x.undo(), 0); due("digest()", x.digest(), start); due("undo()", x.undo(), -3);
    x.year(1); due("worm spread", x.count(4), 2); x.undo(); due("worm undone", x.count(4), 1);
    for (int k = 1; k <= 10; k++) { x.year(1); due("count(9)", x.count(9), Math.min(k, 8)); }
    for (int k = 9; k >= 2; k--) due("undo()", x.undo(), k);
    due("undo()", x.undo(), -3); due("count(9)", x.count(9), 0);
    x.year(1); x.heard(0, 0); x.note(0, 0, 0, 0, 0); x.mark(0, 0, 0, 0, 0, 0); x.forget(0); x.weeps(0, 0, 1); x.image(0);
    due("these leave it", x.count(9), 1); due("undo()", x.undo(), 2); due("NOTES stay", x.count(7), 1);
    x.year(1); x.board(9, 0, 0, 0); x.make(6); x.wet(5, 0); x.worm(7, 0); due("refused ones leave it", x.count(9), 1);
    x.board(0, 0, 0, 0); due("behind a BOARD", x.undo(), -3);
    x.year(1); x.make(0); due("behind an INSTRUMENT", x.undo(), -3);
    x.year(1); x.wet(0, 2); due("behind a WET", x.undo(), -3);
    x.year(1); x.worm(0, 1); due("behind WORM", x.undo(), -3);
    x.year(1); read(x, "town"); due("a FAULT leaves it", x.count(9), 1);
    x.town(); due("behind a town", x.undo(), -3);
    x.year(1); read(x, "town;years 9;"); due("behind one read", x.undo(), -3);
    due("NO", x.status(1), 9);
    HouseFiddles free = of("town;board 0 10 5 0;make 0;cut 0 0;");
    free.takes(0); free.cuts(0, 0); free.undo(); due("IN", free.of(0, 5), -1); free.undo(); due("IN", free.of(0, 5), 0);
  }
  private static void p15() {
    HouseFiddles x = of("town;board 4 77 6 3;board 2 5 0 1;make 0;make 0;cut 0 1;worm 0;");
    int[][] due = {{4, 77, 6, 3, 1, 1}, {2, 5, 0, 1, 0, -1}};
    for (int b = 0; b < 2; b++) for (int w = 0; w < 6; w++) due("of(" + b + ", " + w + ")", x.of(b, w), due[b][w]);
    int[][] wrong = {{-1, 0}, {2, 0}, {0, -1}, {0, 6}, {HIGH, 0}, {LOW, 0}, {0, HIGH}, {0, LOW}};
    for (int[] w : wrong) due("of", x.of(w[0], w[1]), -2);
    refused(x, 8, 0, 0);
  }
  private static void p16() {
    HouseFiddles x = of("town;board 0 0 0 3;board 0 0 0 1;board 0 0 0 3;board 0 0 0 0;make 5;make 3;cut 0 1;cut 1 1;cut 2 1;");
    int[][] due = {{5, 0, 0}, {3, 3, 2}};
    for (int i = 0; i < 2; i++) for (int w = 0; w < 3; w++) due("about(" + i + ", " + w + ")", x.about(i, w), due[i][w]);
    int[][] wrong = {{-1, 0}, {2, 0}, {0, -1}, {0, 3}, {HIGH, 0}, {LOW, 0}, {0, HIGH}, {0, LOW}};
    for (int[] w : wrong) due("about", x.about(w[0], w[1]), -2);
    refused(x, 8, 0, 0);
    x.cuts(3, 0); due("about(0, 2)", x.about(0, 2), 1); due("about(0, 1)", x.about(0, 1), 1);
  }
  private static void p17() {
    // AGE 43, DAMP 4: a DOOR sounds 10 + 6 - 4
    int[][] clean = {{12, 12, 12, 12}, {12, 12, 15, 12}, {12, 12, 12, 24}, {12, 12, 17, 17}, {20, 16, 19, 16}, {4, 4, 4, 8}};
    HouseFiddles x = new HouseFiddles();
    for (int k = 0; k < 6; k++) x.board(k, 43, 4, 0);
    for (int k = 0; k < 6; k++) for (int s = 0; s < 4; s++) due("KIND " + k + " on " + s, x.sounds(k, s), clean[k][s]);
    for (int k = 0; k < 6; k++) x.worm(k, 1);
    for (int k = 0; k < 6; k++) for (int s = 0; s < 4; s++) due("with WORM, KIND " + k + " on " + s, x.sounds(k, s), clean[k][s] / 2);
    int[][] low = {{0, 0, 0, 0}, {0, 0, 3, 0}, {0, 0, 0, 0}, {0, 0, 5, 5}, {10, 6, 9, 6}, {0, 0, 0, 0}};
    x.town();
    for (int k = 0; k < 6; k++) x.board(k, 3, 9, 0);
    for (int k = 0; k < 6; k++) for (int s = 0; s < 4; s++) due("low, KIND " + k + " on " + s, x.sounds(k, s), low[k][s]);
    x.town(); x.board(5, 41, 1, 0); x.board(2, 99, 0, 0);
    due("a third is cut", x.sounds(0, 0), 5); due("a third of twice", x.sounds(0, 3), 10); due("loudest", x.sounds(1, 3), 60);
    int[][] wrong = {{-1, 0}, {2, 0}, {0, -1}, {0, 4}, {HIGH, 0}, {LOW, 0}, {0, HIGH}, {0, LOW}};
    for (int[] w : wrong) due("sounds", x.sounds(w[0], w[1]), -2);
    refused(x, 8, 0, 0);
  }
  private static void p18() {
    // two BOARDS of two HOUSES: DOOR 12, STAIR 11 (14 on STRING 2)
    int[][] two = {{23, 23, 26, 23}, {20, 20, 23, 20}, {46, 23, 26, 23}, {20, 20, 23, 20}, {12, 12, 13, 25}, {46, 23, 0, 0}};
    for (int k = 0; k < 6; k++) {
      HouseFiddles x = of("town;board 0 40 4 0;board 1 36 4 2;make 0;make " + k + ";cut 0 1;cut 1 1;");
      for (int s = 0; s < 4; s++) { due("KIND " + k + " on " + s, x.plays(1, s), two[k][s]); due("empty", x.plays(0, s), 0); }
    }
    int[] four = {34, 25, 68, 0, 17, 68}, none = {0, 0, 0, 0, 0, 0};
    for (int k = 0; k < 6; k++) {
      HouseFiddles x = of("town;board 0 0 0 0;board 0 0 0 1;board 0 0 0 2;board 0 40 0 3;make " + k + ";cut 0 0;cut 1 0;cut 2 0;cut 3 0;");
      due("four HOUSES, KIND " + k, x.plays(0, 0), four[k]);
      for (int b = 0; b < 4; b++) x.takes(b);
      due("no BOARDS, KIND " + k, x.plays(0, 0), none[k]); due("no BOARDS, KIND " + k, x.plays(0, 3), none[k]);
    }
    HouseFiddles same = of("town;board 0 0 0 1;board 0 0 0 1;board 0 0 0 1;make 1;make 3;cut 0 0;cut 1 0;cut 2 0;");
    due("LENT, one HOUSE", same.plays(0, 1), 18);
    HouseFiddles low = of("town;board 0 0 5 0;board 0 0 5 1;make 1;make 4;cut 0 0;cut 1 0;");
    due("LENT, 0 at least", low.plays(0, 1), 0); low.takes(1); due("LENT, one BOARD", low.plays(0, 1), 1);
    low.takes(0); low.cuts(0, 1); due("SQUEAK cut up", low.plays(1, 0), 1); due("SQUEAK", low.plays(1, 3), 2);
    int[][] wrong = {{-1, 0}, {2, 0}, {0, -1}, {0, 4}, {HIGH, 0}, {LOW, 0}, {0, HIGH}, {0, LOW}};
    for (int[] w : wrong) due("plays", low.plays(w[0], w[1]), -2);
    refused(low, 8, 0, 0);
  }
  private static void p19() {
    HouseFiddles x = of("town;wet 4 4 4 4 4;board 0 38 3 0;board 0 0 9 0;make 0;make 2;cut 0 0;worm 1;");
    long before = x.digest();
    int[] due = {12, 13, 15, 16};
    for (int m = 0; m < 4; m++) due("then(0, 1, " + m + ")", x.then(0, 1, m), due[m]);
    due("then(0, 1, 60)", x.then(0, 1, 60), 30); due("then(1, 0, 60)", x.then(1, 0, 60), 0);
    due("digest()", x.digest(), before);
    int[][] wrong = {{-1, 0, 0}, {2, 0, 0}, {0, -1, 0}, {0, 4, 0}, {0, 0, -1}, {0, 0, 61}, {HIGH, 0, 0}, {0, HIGH, 0}, {0, 0, HIGH}, {LOW, 0, 0}, {0, 0, LOW}};
    for (int[] w : wrong) due("then", x.then(w[0], w[1], w[2]), -2);
    refused(x, 11, 0, 0);
    HouseFiddles worm = of("town;board 0 40 0 0;board 0 40 0 0;make 0;cut 0 0;cut 1 0;worm 0;");
    due("then(0, 0, 0)", worm.then(0, 0, 0), 24); due("WORM by then", worm.then(0, 0, 1), 16); due("WORM now", worm.count(4), 1);
    HouseFiddles beyond = of("town;make 0;years 99;years 99;years 99;years 99;years 99;years 99;years 99;years 99;years 99;years 99;years 99;board 0 1 9 0;cut 0 0;");
    due("count(2)", beyond.count(2), 999); due("beyond 999", beyond.then(0, 0, 9), 8); due("count(2)", beyond.count(2), 999);
  }
  private static void p20() {
    HouseFiddles x = of("town;board 0 0 6 0;make 0;board 0 99 0 0;board 2 37 0 1;worm 2;make 0;cut 1 1;");
    due("waits(0, 0, 1)", x.waits(0, 0, 1), 4); due("none", x.waits(0, 0, 16), -1); due("at 60", x.waits(0, 0, 15), 60);
    // with WORM half of 15, of 16 when it is 40, of twice 30 when it is 96
    due("it does", x.waits(2, 0, 7), 0); due("with WORM", x.waits(2, 0, 8), 3); due("waits(2, 3, 30)", x.waits(2, 3, 30), 59);
    due("none", x.waits(2, 3, 60), -1); due("loud", x.waits(1, 0, 30), 0);
    x.takes(1); due("WORM comes to it", x.waits(1, 0, 30), 0); due("WORM comes to it", x.waits(0, 0, 2), 16);
    x.cuts(0, 0); due("it dries", x.waits(0, 0, 6), 5); due("it dries", x.waits(0, 0, 1), 1);
    due("it is asked of the year to come too", of("town;wet 0 3;board 4 0 0 0;").waits(0, 0, 11), 4);
    HouseFiddles wet = of("town;wet 0 0 0 4;board 0 39 0 0;");
    due("ahead of the wet", wet.waits(0, 0, 16), 1); due("as damp as may be", wet.waits(0, 0, 17), 41); due("never", wet.waits(0, 0, 22), -1);
    int[][] wrong = {{-1, 0, 1}, {3, 0, 1}, {0, -1, 1}, {0, 4, 1}, {0, 0, 0}, {0, 0, 61}, {HIGH, 0, 1}, {0, LOW, 1}, {0, 0, HIGH}, {0, 0, LOW}};
    for (int[] w : wrong) due("waits", x.waits(w[0], w[1], w[2]), -2);
    refused(x, 10, 0, 0); due("NONE is not refused", x.status(1), 0);
    HouseFiddles beyond = of("town;years 99;years 99;years 99;years 99;years 99;years 99;years 99;years 99;years 99;years 99;years 99;board 0 39 0 0;");
    due("beyond 999", beyond.waits(0, 0, 20), 17);
  }
  private static void p21() {
    HouseFiddles x = of("town;board 0 0 6 0;board 0 8 3 1;board 0 99 9 2;make 0;make 1;cut 0 0;cut 1 0;");
    long before = x.digest();
    // dried by 0: 0 and 5; by 1: 1 and 6; by 2: 2 and 7; by 3: 3 and 8; by 6: 6 and 8
    for (int k = 1; k <= 5; k++) due("dry(0, 0, " + k + ")", x.dry(0, 0, k), 0);
    due("dry(0, 0, 6)", x.dry(0, 0, 6), 1); due("dry(0, 0, 7)", x.dry(0, 0, 7), 1); due("dry(0, 0, 9)", x.dry(0, 0, 9), 2);
    due("dry(0, 0, 11)", x.dry(0, 0, 11), 3); due("dry(0, 0, 14)", x.dry(0, 0, 14), 6); due("dry(0, 0, 15)", x.dry(0, 0, 15), -1);
    due("of no BOARDS", x.dry(1, 0, 1), -1); due("digest()", x.digest(), before);
    x.cuts(2, 1); due("all of 9", x.dry(1, 0, 30), 9); due("dry(1, 0, 200)", x.dry(1, 0, 200), -1);
    int[][] wrong = {{-1, 0, 1}, {2, 0, 1}, {0, -1, 1}, {0, 4, 1}, {0, 0, 0}, {0, 0, 201}, {HIGH, 0, 1}, {0, LOW, 1}, {0, 0, HIGH}, {0, 0, LOW}};
    for (int[] w : wrong) due("dry", x.dry(w[0], w[1], w[2]), -2);
    refused(x, 10, 0, 0);
  }
  private static void p22() {
    // DOORS that sound 6, 7, 13, 6, 1, 0
    HouseFiddles x = of("town;board 0 0 0 0;board 0 4 0 0;board 0 28 0 0;board 0 0 0 0;board 0 0 5 0;board 0 0 9 0;make 0;make 0;make 1;");
    due("one is fewer than two", x.tune(0, 0, 13), 4); due("of like ones the least", x.tune(0, 0, 6), 1);
    due("two", x.tune(0, 0, 12), 9); due("of like ones the least", x.tune(0, 0, 19), 5); due("three", x.tune(0, 0, 26), 7);
    due("nothing more", x.tune(0, 0, 0), 0); due("four at most", x.tune(0, 0, 32), 15); due("five are too many", x.tune(0, 0, 33), -1);
    due("none", x.tune(0, 0, 3), -1); due("tune(0, 0, 200)", x.tune(0, 0, 200), -1);
    x.cuts(2, 0); due("beside its own", x.tune(0, 0, 13), 0); due("beside its own", x.tune(0, 0, 20), 2);
    due("beside its own", x.tune(0, 0, 26), 3); due("one that is not free", x.tune(1, 0, 13), 3);
    x.cuts(0, 0); x.cuts(1, 0); due("one more at most", x.tune(0, 0, 33), -1); due("one more", x.tune(0, 0, 32), 8);
    x.cuts(5, 0); due("no more", x.tune(0, 0, 32), -1); due("no more", x.tune(0, 0, 26), 0);
    HouseFiddles lent = of("town;board 0 0 0 0;board 0 0 0 1;board 0 0 0 1;make 1;");
    due("HOUSES count", lent.tune(0, 0, 12), 6); due("HOUSES count", lent.tune(0, 0, 9), 3);
    due("all that are free", of("town;board 0 0 0 0;board 0 0 0 0;make 0;").tune(0, 0, 12), 3);
    int[][] wrong = {{-1, 0, 1}, {3, 0, 1}, {0, -1, 1}, {0, 4, 1}, {0, 0, -1}, {0, 0, 201}, {HIGH, 0, 1}, {0, LOW, 1}, {0, 0, HIGH}, {0, 0, LOW}};
    for (int[] w : wrong) due("tune", x.tune(w[0], w[1], w[2]), -2);
    refused(x, 10, 0, 0);
  }
  private static void p23() {
    HouseFiddles x = of("town;board 0 0 0 0;board 0 4 0 0;board 0 28 0 0;");
    due("no INSTRUMENTS", x.best(0, -1), -1); due("no INSTRUMENTS", x.best(0, 2), -1); due("no INSTRUMENTS, not as told", x.best(0, 3), -10);
    x.make(0); x.make(0);
    // 6 and 7 beside 13
    due("best(0, -1)", x.best(0, -1), 13); due("best(0, 0)", x.best(0, 0), 0); due("best(0, 1)", x.best(0, 1), 0); due("best(0, 2)", x.best(0, 2), 1);
    x.cuts(0, 1); due("what is IN stays", x.best(0, -1), 13); due("what is IN", x.best(0, 0), 1); due("best(0, 1)", x.best(0, 1), 1); due("best(0, 2)", x.best(0, 2), 0);
    x.cuts(2, 1); due("best(0, -1)", x.best(0, -1), 7); due("best(0, 1)", x.best(0, 1), 0);
    int[][] wrong = {{-1, -1}, {4, -1}, {0, -2}, {0, 3}, {HIGH, -1}, {LOW, 0}, {0, HIGH}, {0, LOW}};
    for (int[] w : wrong) due("best", x.best(w[0], w[1]), -10);
    refused(x, 9, 0, 0);
    HouseFiddles free = of("town;board 0 40 0 0;board 0 40 0 0;board 0 0 0 0;make 0;");
    due("all", free.best(1, -1), 38); due("all", free.best(1, 0), 0); due("all", free.best(1, 2), 0);
    HouseFiddles none = of("town;board 0 40 0 0;make 0;make 0;");
    due("one of two", none.best(0, -1), 0); due("free first", none.best(0, 0), -1);
    HouseFiddles four = of("town;board 0 0 0 0;board 0 0 0 0;board 0 0 0 0;board 0 0 0 0;board 0 0 0 0;board 0 4 0 0;make 0;");
    due("four at most", four.best(0, -1), 25);
    int[] due = {-1, -1, 0, 0, 0, 0};
    for (int b = 0; b < 6; b++) due("the first way, " + b, four.best(0, b), due[b]);
    HouseFiddles lent = of("town;board 0 40 0 0;board 0 0 5 1;make 1;");
    due("better without", lent.best(0, -1), 16); due("better without", lent.best(0, 1), -1); due("better without", lent.best(0, 0), 0);
    // on the first way the first BOARD goes as low as may be, ahead of the second
    HouseFiddles way = of("town;board 0 0 0 0;board 0 0 0 0;board 0 0 0 0;make 0;make 0;");
    due("way", way.best(0, -1), 6); due("way 0", way.best(0, 0), -1); due("way 1", way.best(0, 1), 0); due("way 2", way.best(0, 2), 1);
    HouseFiddles all = of("town;board 0 0 0 0;board 0 0 0 0;make 0;make 0;");
    due("way 0", all.best(0, 0), 0); due("way 1", all.best(0, 1), 1);
    long before = all.digest(); all.best(0, 1); all.best(0, -1); due("digest()", all.digest(), before);
  }
  private static void p24() {
    HouseFiddles x = of("town;board 0 0 0 0;board 0 16 0 0;board 0 20 0 0;make 0;make 0;make 0;make 2;cut 0 0;cut 1 1;cut 2 2;");
    // 6, 10, 11, 0
    due("together(0, 0)", x.together(0, 0), 3); due("together(1, 0)", x.together(1, 0), 7); due("together(2, 3)", x.together(2, 3), 6);
    due("together(3, 0)", x.together(3, 0), 8);
    HouseFiddles y = of("town;make 0;make 1;make 2;make 3;");
    due("together(3, 2)", y.together(3, 2), 15);
    y.board(4, 0, 0, 0); y.cuts(0, 2); due("on 0", y.together(0, 0), 11); due("on 1", y.together(2, 1), 4);
    int[][] wrong = {{-1, 0}, {4, 0}, {0, -1}, {0, 4}, {HIGH, 0}, {LOW, 0}, {0, HIGH}, {0, LOW}};
    for (int[] w : wrong) due("together", x.together(w[0], w[1]), -2);
    refused(x, 8, 0, 0);
  }
  private static void p25() {
    due("no INSTRUMENTS", new HouseFiddles().orchestra(), 0);
    HouseFiddles x = of("town;board 0 0 0 0;board 0 16 0 0;board 0 32 0 0;make 0;make 0;make 0;cut 0 0;cut 1 1;cut 2 2;");
    // 6, 10, 14: each two that are next to one another, the least of these
    due("orchestra()", x.orchestra(), 3);
    x.takes(0); due("0, 10, 14", x.orchestra(), 6); x.takes(2); x.takes(1); due("all silent", x.orchestra(), 7);
    HouseFiddles alone = of("town;board 0 40 0 0;board 0 99 0 0;make 0;make 0;cut 0 0;cut 1 1;");
    due("each alone", alone.orchestra(), 1);
    // alike but on STRING 3, alike but on STRING 2
    due("on all STRINGS", of("town;board 0 40 0 0;board 2 40 0 0;make 0;make 0;cut 0 0;cut 1 1;").orchestra(), 1);
    due("on all STRINGS", of("town;board 0 40 0 0;board 3 40 0 0;make 0;make 0;cut 0 0;cut 1 1;").orchestra(), 1);
    due("on STRING 0", of("town;board 0 40 0 0;board 0 40 0 0;make 0;make 2;cut 0 0;cut 1 1;").orchestra(), 1);
    due("on STRING 1", of("town;board 0 56 0 0;board 4 0 0 0;board 4 0 0 0;make 5;make 5;cut 0 0;cut 1 1;cut 2 1;").orchestra(), 1);
    due("unlike by 3", of("town;board 0 40 0 0;board 1 40 0 0;make 0;make 0;cut 0 0;cut 1 1;").orchestra(), 3);
  }
  private static void p26() {
    HouseFiddles x = new HouseFiddles();
    int[][] wrong = {{-1, 0}, {4, 0}, {0, -1}, {0, 61}, {HIGH, 0}, {LOW, 0}, {0, HIGH}, {0, LOW}};
    for (int[] w : wrong) due("heard", x.heard(w[0], w[1]), -2);
    for (int k = 0; k < 6; k++) due("heard", x.heard(k % 4, 12 * k), k + 1);
    due("a 7th", x.heard(0, 0), -4); due("a 7th, not as told", x.heard(4, 0), -2);
    refused(x, 9, 0, 1); due("count(6)", x.count(6), 6);
    due("heard(3, 60)", new HouseFiddles().heard(3, 60), 1);
  }
  private static void p27() {
    HouseFiddles x = new HouseFiddles();
    due("whose()", x.whose(), 0);
    x.board(0, 40, 0, 0); x.board(1, 40, 0, 0); x.board(2, 40, 0, 0); x.board(3, 40, 0, 0);
    due("all", x.whose(), 15);
    x.heard(0, 16); due("on 0", x.whose(), 15);
    x.heard(2, 16); due("on 2", x.whose(), 5);
    x.heard(3, 32); due("on 3", x.whose(), 4);
    x.worm(2, 1); due("as it sounds now", x.whose(), 0);
    x.forget(0); x.heard(0, 8); due("with WORM", x.whose(), 4);
    x.heard(0, 9); due("none", x.whose(), 0);
  }
  private static void p28() {
    HouseFiddles x = new HouseFiddles();
    due("no BOARD", x.tells(), -1);
    x.board(0, 40, 0, 0); due("one", x.tells(), 0);
    x.board(2, 40, 0, 0); due("by STRING 3", x.tells(), 3);
    x.board(0, 40, 0, 0); due("by STRING 3", x.tells(), 3);
    x.board(1, 40, 0, 0); x.board(3, 40, 0, 0);
    // on 2: 16, 16, 16, 19, 21; on 3: 16, 32, 16, 16, 21
    due("like ones: the least", x.tells(), 2);
    x.heard(2, 16); due("of those left", x.tells(), 3);
    x.heard(3, 32); due("one left", x.tells(), 0);
    x.heard(3, 31); due("none left", x.tells(), -1);
    refused(x, 0, 0, 0);
    HouseFiddles same = of("town;board 0 40 0 0;board 0 40 0 0;"); due("the same", same.tells(), 0);
    same.worm(1, 1); due("WORM parts them", same.tells(), 0);
  }
  private static void p29() {
    HouseFiddles x = of("town;board 0 0 0 0;board 0 0 0 0;");
    int[][] wrong = {{-1, 0, 0, 0, 0}, {2, 0, 0, 0, 0}, {0, -1, 0, 0, 0}, {0, 100, 0, 0, 0}, {0, 0, -1, 0, 0}, {0, 0, 10, 0, 0}, {0, 0, 0, -1, 0},
      {0, 0, 0, 4, 0}, {0, 0, 0, 0, -1}, {0, 0, 0, 0, 61}, {HIGH, 0, 0, 0, 0}, {0, LOW, 0, 0, 0}, {0, 0, HIGH, 0, 0}, {0, 0, 0, LOW, 0}, {0, 0, 0, 0, HIGH}};
    for (int[] w : wrong) due("note", x.note(w[0], w[1], w[2], w[3], w[4]), -2);
    due("note(1, 99, 9, 3, 60)", x.note(1, 99, 9, 3, 60), 1);
    for (int k = 2; k <= 6; k++) due("note", x.note(0, 0, 0, 0, 0), k);
    due("a 7th", x.note(0, 0, 0, 0, 0), -4); due("a 7th, not as told", x.note(2, 0, 0, 0, 0), -2);
    refused(x, 16, 0, 1); due("count(7)", x.count(7), 6);
  }
  private static void p30() {
    HouseFiddles x = of("town;make 0;make 0;");
    int[][] wrong = {{-1, 0, 0, 0, 0, 0}, {2, 0, 0, 0, 0, 0}, {0, -1, 0, 0, 0, 0}, {0, 201, 0, 0, 0, 0}, {0, 0, -1, 0, 0, 0}, {0, 0, 5, 0, 0, 0},
      {0, 0, 0, -1, 0, 0}, {0, 0, 0, 5, 0, 0}, {0, 0, 0, 0, -1, 0}, {0, 0, 0, 0, 4, 0}, {0, 0, 0, 0, 0, -1}, {0, 0, 0, 0, 0, 401}, {HIGH, 0, 0, 0, 0, 0},
      {0, HIGH, 0, 0, 0, 0}, {0, 0, HIGH, 0, 0, 0}, {0, 0, 0, HIGH, 0, 0}, {0, 0, 0, 0, HIGH, 0}, {0, 0, 0, 0, 0, HIGH}};
    for (int[] w : wrong) due("mark", x.mark(w[0], w[1], w[2], w[3], w[4], w[5]), -2);
    due("mark(1, 200, 4, 4, 3, 400)", x.mark(1, 200, 4, 4, 3, 400), 1);
    for (int k = 2; k <= 6; k++) due("mark", x.mark(0, 0, 0, 0, 0, 0), k);
    due("a 7th", x.mark(0, 0, 0, 0, 0, 0), -4); due("a 7th, not as told", x.mark(2, 0, 0, 0, 0, 0), -2);
    refused(x, 19, 0, 1); due("count(8)", x.count(8), 6);
  }
  private static void p31() {
    HouseFiddles x = of("town;board 0 0 0 0;make 0;");
    for (int k = 0; k < 2; k++) x.heard(0, k);
    for (int k = 0; k < 3; k++) x.note(0, 0, 0, 0, k);
    for (int k = 0; k < 4; k++) x.mark(0, 0, 0, 0, 0, k);
    for (int w : new int[] {-1, 3, LOW, HIGH}) due("forget", x.forget(w), -2);
    due("forget(1)", x.forget(1), 3); due("count(6)", x.count(6), 2); due("count(7)", x.count(7), 0); due("count(8)", x.count(8), 4);
    due("forget(0)", x.forget(0), 2); due("count(8)", x.count(8), 4); due("forget(2)", x.forget(2), 4);
    for (int w = 0; w < 3; w++) { due("forget(" + w + ")", x.forget(w), 0); due("count", x.count(6 + w), 0); }
    refused(x, 4, 0, 0);
  }
  private static void p32() {
    HouseFiddles x = of("town;board 5 9 9 0;board 0 0 0 0;worm 0;");
    due("no NOTES", x.is(0), 63);
    x.note(0, 99, 0, 0, 30); due("is(0)", x.is(0), 15); due("the other", x.is(1), 63);
    x.note(0, 99, 0, 2, 33); due("is(0)", x.is(0), 2);
    x.note(1, 40, 3, 0, 20); due("a KITCHEN", x.is(1), 16);
    x.note(1, 40, 3, 1, 17); due("none", x.is(1), 0); due("is(0)", x.is(0), 2);
    x.forget(1); x.note(0, 40, 0, 3, 10); due("MARBLE", x.is(0), 32);
    for (int w : new int[] {-1, 2, LOW, HIGH}) due("is", x.is(w), -2);
    refused(x, 4, 0, 0);
  }
  private static void p33() {
    HouseFiddles x = of("town;board 0 40 9 0;board 1 3 0 0;");
    due("all KINDS", x.look(0), 20);
    x.note(0, 40, 0, 2, 16); due("DOOR, SILL", x.is(0), 5); due("by STRING 3", x.look(0), 30);
    x.forget(1); x.note(0, 40, 1, 2, 18); due("STAIR", x.is(0), 2); due("one KIND", x.look(0), 0);
    x.forget(1); x.note(0, 40, 0, 1, 16); x.note(0, 40, 0, 2, 19); due("STAIR, KITCHEN", x.is(0), 18); due("by STRING 0", x.look(0), 0);
    x.forget(1); x.note(0, 40, 0, 3, 16); due("DOOR, STAIR, KITCHEN", x.is(0), 19); due("by STRING 2", x.look(0), 21);
    x.forget(1); x.note(1, 0, 9, 0, 0); x.note(1, 0, 9, 2, 0); due("DOOR, SILL, MARBLE", x.is(1), 37); due("by its AGE", x.look(1), 30);
    x.note(1, 0, 9, 2, 1); due("no KIND", x.is(1), 0); due("no KIND", x.look(1), -1);
    for (int w : new int[] {-1, 2, LOW, HIGH}) due("look", x.look(w), -2);
    refused(x, 4, 0, 0);
    // DAMP is the one told, WORM is left out: DOOR 6 less 5 and MARBLE a third of it are alike only when halved
    HouseFiddles worm = of("town;board 0 0 0 0;worm 0;");
    worm.note(0, 0, 9, 0, 0); worm.note(0, 0, 9, 3, 0); worm.note(0, 0, 9, 2, 3);
    due("STAIR alone", worm.is(0), 2); due("one KIND", worm.look(0), 0);
  }
  private static void p34() {
    HouseFiddles x = of("town;make 5;make 5;");
    due("no MARKS", x.kinds(0), 63);
    x.mark(0, 20, 3, 4, 3, 24); due("SQUEAK", x.kinds(0), 16); due("the other", x.kinds(1), 63);
    x.mark(1, 20, 2, 2, 1, 17); due("LENT, TENEMENT", x.kinds(1), 10);
    x.mark(1, 20, 3, 2, 1, 14); due("LENT", x.kinds(1), 2);
    x.mark(1, 20, 3, 2, 1, 15); due("none", x.kinds(1), 0);
    x.forget(2); x.mark(0, 9, 1, 1, 0, 18); due("CELLO, BASS", x.kinds(0), 36); x.mark(0, 9, 1, 1, 2, 0); due("BASS", x.kinds(0), 32);
    x.forget(2); x.mark(1, 9, 0, 0, 2, 9); due("FIDDLE, LENT, CELLO, TENEMENT", x.kinds(1), 15);
    for (int w : new int[] {-1, 2, LOW, HIGH}) due("kinds", x.kinds(w), -2);
    refused(x, 4, 0, 0);
  }
  private static void p35() {
    HouseFiddles x = of("town;make 5;make 5;");
    due("all KINDS", x.ask(0), 20);
    x.mark(1, 20, 2, 2, 1, 17); due("LENT, TENEMENT: three HOUSES", x.ask(1), 30);
    x.mark(1, 20, 3, 2, 1, 14); due("one KIND", x.ask(1), 0);
    x.mark(1, 20, 3, 2, 1, 15); due("none", x.ask(1), -1); due("the other", x.ask(0), 20);
    x.forget(2); x.mark(0, 9, 1, 1, 0, 18); due("CELLO, BASS: STRING 2", x.ask(0), 200);
    x.forget(2); x.mark(0, 20, 1, 1, 1, 20); x.mark(0, 20, 1, 1, 0, 20); x.mark(0, 20, 4, 1, 1, 20); due("FIDDLE", x.kinds(0), 1);
    x.forget(2); x.mark(0, 0, 0, 1, 0, 0); due("all", x.ask(0), 20);
    x.forget(2); x.mark(0, 20, 0, 0, 3, 20); due("all but BASS", x.kinds(0), 31); due("FIDDLE, CELLO, LENT, TENEMENT, SQUEAK", x.ask(0), 30);
    for (int w : new int[] {-1, 2, LOW, HIGH}) due("ask", x.ask(w), -2);
    refused(x, 4, 0, 0);
  }
  private static void p36() {
    HouseFiddles x = of("town;board 0 0 0 0;board 0 99 0 0;make 0;make 0;cut 0 0;");
    // worth 0: none bids
    due("bids(1, -1)", x.bids(1, -1), 1); due("bids(1, 0)", x.bids(1, 0), 0); due("bids(1, 1)", x.bids(1, 1), -5); due("bids(1, 99)", x.bids(1, 99), -5);
    due("bids(1, HIGH)", x.bids(1, HIGH), -5);
    HouseFiddles cello = of("town;board 0 0 5 0;make 0;make 2;cut 0 1;");
    // worth 2 on STRING 0, 1 on the others: 1 and 1, 1 and 2 rest
    due("on STRING 0", cello.bids(1, -1), 2); due("bids(1, 0)", cello.bids(1, 0), 11); due("bids(1, 1)", cello.bids(1, 1), 12);
    int[][] wrong = {{-1, 0}, {2, 0}, {0, -2}, {HIGH, 0}, {LOW, 0}, {0, LOW}};
    for (int[] w : wrong) due("bids", x.bids(w[0], w[1]), -10);
    refused(x, 6, 0, 0);
    for (int worth = 0; worth <= 12; worth++) {
      HouseFiddles y = of("town;board 0 " + Math.max(0, 4 * (worth - 6)) + " " + Math.max(0, 6 - worth) + " 0;make 0;cut 0 0;");
      due("worth", y.plays(0, 0), worth);
      int many = 0;
      for (int pair = 0; pair < 100; pair++) if (rests(Math.min(worth, 9), pair / 10, pair % 10)) due("bids(0, " + many + ")", y.bids(0, many++), pair);
      due("bids(0, -1) at " + worth, y.bids(0, -1), many); due("behind the last", y.bids(0, many), -5);
    }
  }
  /** Each pair's gains looked at one by one. */
  private static boolean rests(int worth, int i, int j) {
    int mine = i >= j ? worth - i : 0 - i / 2, his = j > i ? worth - j : 0 - j / 2;
    for (int o = 0; o < 10; o++) {
      if ((o >= j ? worth - o : 0 - o / 2) > mine) return false;
      if ((o > i ? worth - o : 0 - o / 2) > his) return false;
    }
    return true;
  }
  private static void p37() {
    HouseFiddles x = of("town;board 0 0 0 0;board 0 0 8 1;make 0;make 4;cut 0 0;");
    long before = x.count(5);
    due("weeps(0, 0, 0)", x.weeps(0, 0, 0), 1); fraction(x, 6, 1);
    due("weeps(0, 0, 10)", x.weeps(0, 0, 10), 1); fraction(x, 3, 1);
    due("weeps(0, 0, 5)", x.weeps(0, 0, 5), 1); fraction(x, 9, 2);
    due("weeps(0, 0, 1)", x.weeps(0, 0, 1), 1); fraction(x, 57, 10);
    due("DAMP stays", x.count(5), before);
    int[][] wrong = {{-1, 0, 0}, {2, 0, 0}, {0, -1, 0}, {0, 4, 0}, {0, 0, -1}, {0, 0, 11}, {HIGH, 0, 0}, {0, LOW, 0}, {0, 0, HIGH}};
    for (int[] w : wrong) due("weeps", x.weeps(w[0], w[1], w[2]), -2);
    fraction(x, 57, 10); refused(x, 9, 0, 0);
    due("no BOARDS", x.weeps(1, 0, 3), 1); fraction(x, 0, 1);
    // a SQUEAK with DOORS of 6 and 14 - DAMP 8 (9 at most: 1 less); cut up: of 20 10, of 17 9, of 19 10, of 16 8
    HouseFiddles y = of("town;board 0 0 0 0;board 0 64 8 1;make 4;cut 0 0;cut 1 0;");
    due("plays(0, 0)", y.plays(0, 0), 10);
    due("weeps(0, 0, 1)", y.weeps(0, 0, 1), 1); fraction(y, 989, 100);
    due("weeps(0, 0, 5)", y.weeps(0, 0, 5), 1); fraction(y, 37, 4);
    HouseFiddles four = of("town;board 0 0 0 0;board 0 0 0 0;board 0 0 0 0;board 0 0 0 0;make 0;cut 0 0;cut 1 0;cut 2 0;cut 3 0;");
    four.weeps(0, 1, 3); fraction(four, 102, 5); four.weeps(0, 1, 10); fraction(four, 12, 1);
  }
  private static void p38() {
    HouseFiddles x = of("town;wet 1 1 1 1 1;board 0 0 9 0;board 0 40 0 0;make 0;make 2;make 0;make 0;cut 0 0;cut 1 1;");
    long before = x.digest();
    due("n 0", x.generations(5, 0), 0);
    for (int seed : new int[] {0, 1, 5, 77, 999999, 123456}) {
      for (int n : new int[] {1, 2, 3, 7, 60}) {
        long v = seed;
        int all = 0;
        for (int y = 0; y < n; y++) {
          v = (v * 1103515245L + 12345) & 0x7fffffffL;
          all += x.then((int) (v >> 16 & 3), (int) (v >> 20 & 3), y);
        }
        due("generations(" + seed + ", " + n + ")", x.generations(seed, n), all);
      }
    }
    due("digest()", x.digest(), before);
    // X is 12345, 1406932606, ..: INSTRUMENTS 0 and 3
    due("not there: none", of("town;make 0;board 4 99 0 0;").generations(0, 60), 0);
    due("no town", new HouseFiddles().generations(999999, 60), 0);
    due("INSTRUMENT 0 on STRING 0 at 12345", of("town;make 0;board 4 0 0 0;cut 0 0;").generations(0, 1), 10);
    int[][] wrong = {{-1, 0}, {1000000, 0}, {0, -1}, {0, 61}, {HIGH, 0}, {LOW, 0}, {0, HIGH}, {0, LOW}};
    for (int[] w : wrong) due("generations", x.generations(w[0], w[1]), -2);
    refused(x, 8, 0, 0);
    HouseFiddles beyond = of("town;years 99;years 99;years 99;years 99;years 99;years 99;years 99;years 99;years 99;years 99;years 99;make 0;board 0 1 9 0;cut 0 0;");
    HouseFiddles young = of("town;make 0;board 0 1 9 0;cut 0 0;");
    due("beyond 999", beyond.generations(7, 60), young.generations(7, 60));
  }
  private static void p39() {
    HouseFiddles x = of("town;board 0 0 0 0;make 0;cut 0 0;");
    fraction(x, 0, 1);
    x.weeps(0, 0, 1); fraction(x, 57, 10);
    x.town(); fraction(x, 57, 10); x.image(0); x.from(0); fraction(x, 57, 10); read(x, "town;"); fraction(x, 57, 10);
    for (int w : new int[] {-1, 2, LOW, HIGH}) due("part", x.part(w), -2);
    refused(x, 4, 0, 0);
  }
  private static void p40() {
    HouseFiddles x = new HouseFiddles();
    for (int w : new int[] {-1, 2, LOW, HIGH}) due("image", x.image(w), -2);
    due("image(0)", x.image(0), 1); due("image(1)", x.image(1), 1);
    x.board(0, 0, 0, 0); due("image(1)", x.image(1), 1);
    x.from(0); due("count(0)", x.count(0), 0); x.from(1); due("count(0)", x.count(0), 1);
    x.board(0, 0, 0, 0); due("image(1)", x.image(1), 1); x.town(); x.from(1); due("the later one", x.count(0), 2);
    refused(x, 4, 0, 0);
  }
  private static void p41() {
    HouseFiddles x = of("town;wet 1 2 3 4;board 3 40 5 2;board 1 20 2 1;make 4;cut 1 0;worm 0;years 2;");
    for (int w : new int[] {-1, 2, LOW, HIGH}) due("from", x.from(w), -2);
    due("from(1)", x.from(1), -3);
    x.heard(1, 2); x.note(1, 2, 3, 1, 5); x.mark(0, 1, 2, 3, 1, 5); x.year(1); x.takes(1);
    long before = x.digest();
    x.image(1); due("from(0)", x.from(0), -3);
    x.undo(); x.undo(); x.heard(1, 3); x.forget(1); x.forget(2); x.make(0); x.board(0, 0, 0, 0); x.wet(0, 0); x.year(7);
    due("from(1)", x.from(1), 1); due("digest()", x.digest(), before); due("count(9)", x.count(9), 2);
    due("it is undone from there", x.undo(), 3); due("IN", x.of(1, 5), 0); due("it is undone from there", x.undo(), 2); due("none", x.undo(), -3);
    due("from(1)", x.from(1), 1); due("digest()", x.digest(), before);
    x.clear(); x.weeps(0, 0, 0); long above = x.part(0); x.from(1); due("THE TEXT stays", x.count(10), 0); due("THE FRACTION stays", x.part(0), above);
    refused(x, 4, 3, 0);
    read(x, "town;"); due("IMAGES stay", x.from(1), 1); x.town(); due("IMAGES stay", x.from(1), 1); due("count(0)", x.count(0), 2);
  }
  private static void p42() {
    HouseFiddles x = new HouseFiddles();
    refused(x, 0, 0, 0);
    due("status(3)", x.status(3), -1); due("status(-1)", x.status(-1), -1); due("status(LOW)", x.status(LOW), -1); due("status(HIGH)", x.status(HIGH), -1);
    refused(x, 4, 0, 0);
    x.undo(); x.from(0); x.best(9, 0); x.bids(0, 0); x.part(7); x.count(-1);
    refused(x, 8, 2, 0);
    for (int k = 0; k < 7; k++) { x.board(0, 0, 0, 0); x.make(0); x.heard(0, 0); }
    refused(x, 8, 2, 5);
    due("NONE is not refused", x.tune(0, 0, 199), -1); due("NONE is not refused", x.waits(0, 0, 60), -1); due("-5 is not refused", x.bids(0, 50), -5);
    due("a FAULT is not refused", x.read(), -10);
    refused(x, 8, 2, 5);
    x.town(); read(x, "town;"); x.image(0); x.from(0);
    refused(x, 8, 2, 5);
  }
  private static void p43() {
    HouseFiddles x = of("town;board 0 0 7 0;board 0 0 9 0;board 0 0 1 0;make 0;make 0;cut 1 1;worm 0;worm 2;");
    x.year(2); x.heard(0, 0); x.note(0, 0, 0, 0, 0); x.note(0, 0, 0, 0, 0); for (int k = 0; k < 3; k++) x.mark(0, 0, 0, 0, 0, 0);
    x.dries(0, 1); x.dries(0, 1); x.dries(0, 1);
    int[] due = {3, 2, 2, 2, 2, 12, 1, 2, 3, 4, x.count(10)};
    for (int w = 0; w <= 10; w++) due("count(" + w + ")", x.count(w), due[w]);
    due("bytes", x.count(10), "town;board 0 0 7 0;board 0 0 9 0;board 0 0 1 0;make 0;make 0;cut 1 1;worm 0;worm 2;".length());
    for (int w : new int[] {-1, 11, LOW, HIGH}) due("count", x.count(w), -2);
    refused(x, 4, 0, 0);
  }
  private static void p44() {
    HouseFiddles x = new HouseFiddles();
    x.wet(0, 1); x.wet(3, 4); x.board(4, 55, 6, 3); x.board(1, 22, 0, 1); x.make(3); x.make(5); x.worm(1, 1); x.type('t'); x.type('o');
    x.cuts(0, 1); x.heard(2, 33); x.note(1, 44, 5, 3, 50); x.mark(1, 150, 4, 3, 2, 350); x.weeps(1, 1, 5); x.year(1);
    long above = x.part(0), below = x.part(1);
    due("digest()", x.digest(), Scenes.mixed(2, 2, 1, 1, 1, 6, 1, 1, 1, 2, 2, 1, 0, 0, 4, 0, 4, 56, 5, 3, 0, 1, 1, 23, 1, 1, 1, -1, 3, 5,
        2, 33, 1, 44, 5, 3, 50, 1, 150, 4, 3, 2, 350, above, below));
    due("again", x.digest(), x.digest()); refused(x, 0, 0, 0);
  }

  public static void main(String[] args) {
    Runnable[] all = {Promises::p1, Promises::p2, Promises::p3, Promises::p4, Promises::p5, Promises::p6, Promises::p7, Promises::p8,
      Promises::p9, Promises::p10, Promises::p11, Promises::p12, Promises::p13, Promises::p14, Promises::p15, Promises::p16, Promises::p17,
      Promises::p18, Promises::p19, Promises::p20, Promises::p21, Promises::p22, Promises::p23, Promises::p24, Promises::p25, Promises::p26,
      Promises::p27, Promises::p28, Promises::p29, Promises::p30, Promises::p31, Promises::p32, Promises::p33, Promises::p34, Promises::p35,
      Promises::p36, Promises::p37, Promises::p38, Promises::p39, Promises::p40, Promises::p41, Promises::p42, Promises::p43, Promises::p44};
    for (Runnable one : all) { promise++; one.run(); }
    System.out.println(passed + " passed, " + failed + " failed");
    if (failed > 0) System.exit(1);
  }
}
