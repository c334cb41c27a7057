/** THE TOWN's TEXT: what may stand in it, and each FAULT at its place, with all as it was. */
public final class Texts {
  private static final Cases cases = new Cases("texts");
  private static final String SIX = "board 0 0 0 0;".repeat(6), FOUR = "make 0;".repeat(4);

  /** It is read: so many ITEMS; the town is as the same calls make it. */
  private static void reads(String sentence, String text, int items, java.util.function.Consumer<HouseFiddles> calls) {
    cases.hold(sentence, () -> {
      HouseFiddles x = Scenes.some(), told = new HouseFiddles();
      Scenes.type(x, text);
      cases.due("read of '" + text + "'", x.read(), items);
      calls.accept(told);
      cases.same("the town", town(x), town(told));
      cases.due("THE TEXT stays", x.count(10), text.length());
    });
  }
  private static String town(HouseFiddles x) {
    StringBuilder s = new StringBuilder();
    for (int w = 0; w <= 8; w++) s.append(x.count(w)).append(' ');
    for (int b = 0; b < x.count(0); b++) for (int w = 0; w <= 5; w++) s.append(x.of(b, w)).append(' ');
    for (int i = 0; i < x.count(1); i++) s.append(x.about(i, 0)).append(' ');
    for (int y = 0; y < 5; y++) s.append(x.wet(y, 0)).append(' ');
    return s.toString();
  }

  private static void fault(String sentence, String text, int place) {
    cases.hold(sentence, () -> {
      HouseFiddles x = Scenes.some(), untouched = Scenes.some();
      Scenes.type(x, text); Scenes.type(untouched, text);
      String before = Scenes.refused(x);
      cases.due("read of '" + text + "'", x.read(), -10 - place);
      cases.same("STATUS", Scenes.refused(x), before);
      cases.due("now", x.digest(), untouched.digest());
      // THE TEXT is read again in there, so only what may be undone and the IMAGES are told apart
      cases.same("all", Scenes.all(x), Scenes.all(untouched));
    });
  }

  private static void read() {
    reads("town alone is a town", "town;", 1, x -> { });
    reads("wet: one number, the others 0", "town;wet 4;", 2, x -> x.wet(0, 4));
    reads("wet: five numbers", "town;wet 4 3 2 1 4;", 2, x -> { for (int y = 0; y < 4; y++) x.wet(y, 4 - y); x.wet(4, 4); });
    reads("wet: 0 and 4 are the ends", "town;wet 0 4 00 04 0;", 2, x -> { x.wet(1, 4); x.wet(3, 4); });
    reads("wet again: the years that it tells alone", "town;wet 1 2 3;wet 4;", 3, x -> { x.wet(0, 4); x.wet(1, 2); x.wet(2, 3); });
    reads("board: the first numbers", "town;board 0 0 0 0;", 2, x -> x.board(0, 0, 0, 0));
    reads("board: the last numbers", "town;board 5 99 9 3;", 2, x -> x.board(5, 99, 9, 3));
    reads("board: figures, 1 or 2", "town;board 05 09 09 03;", 2, x -> x.board(5, 9, 9, 3));
    reads("board: six", "town;" + SIX, 7, x -> { for (int b = 0; b < 6; b++) x.board(0, 0, 0, 0); });
    reads("make: the first and the last KIND", "town;make 0;make 5;", 3, x -> { x.make(0); x.make(5); });
    reads("make: four", "town;" + FOUR, 5, x -> { for (int i = 0; i < 4; i++) x.make(0); });
    reads("cut: four IN one", "town;" + "board 0 0 0 0;".repeat(5) + "make 0;make 1;cut 0 0;cut 1 0;cut 2 0;cut 4 0;cut 3 1;", 13, x -> {
      for (int b = 0; b < 5; b++) x.board(0, 0, 0, 0);
      x.make(0); x.make(1);
      for (int b : new int[] {0, 1, 2, 4}) x.cuts(b, 0);
      x.cuts(3, 1);
    });
    reads("worm: of a BOARD that is there, twice, and IN one", "town;board 0 0 0 0;board 0 0 0 0;make 0;cut 1 0;worm 1;worm 1;", 7, x -> {
      x.board(0, 0, 0, 0); x.board(0, 0, 0, 0); x.make(0); x.cuts(1, 0); x.worm(1, 1);
    });
    reads("years: 1", "town;board 0 0 0 0;years 1;", 3, x -> { x.board(0, 0, 0, 0); x.year(1); });
    reads("years: 99", "town;board 0 0 0 0;years 99;", 3, x -> { x.board(0, 0, 0, 0); x.year(60); x.year(39); });
    reads("years go by where it stands", "town;wet 1 2;board 0 0 0 0;years 1;board 1 0 0 0;worm 0;years 1;make 0;cut 1 0;years 1;wet 4;", 11, x -> {
      x.wet(0, 1); x.wet(1, 2); x.board(0, 0, 0, 0); x.year(1); x.board(1, 0, 0, 0); x.worm(0, 1); x.year(1); x.make(0); x.cuts(1, 0); x.year(1); x.wet(0, 4);
    });
    reads("years: at 999 none goes by", "town;" + "years99;".repeat(10) + "years9;board 0 5 0 0;years1;board 0 5 0 0;", 15, x -> {
      for (int k = 0; k < 16; k++) x.year(60);
      x.year(39); x.board(0, 5, 0, 0); x.year(1); x.board(0, 5, 0, 0);
    });
    reads("years: as many as there are to 999, of 99", "town;" + "years99;".repeat(10) + "board 0 5 0 0;years99;", 13, x -> {
      for (int k = 0; k < 16; k++) x.year(60);
      x.year(30); x.board(0, 5, 0, 0); x.year(9);
    });
    reads("blanks ahead of, between and behind TOKENS", "   town  ;   make   3   ;   ", 2, x -> x.make(3));
    reads("blanks are not needed but between two numbers", "town;make3;wet0 1;worm;".replace("worm;", "board1 2 3 1;worm0;cut0 0;years9;"), 7, x -> {
      x.make(3); x.wet(1, 1); x.board(1, 2, 3, 1); x.worm(0, 1); x.cuts(0, 0); x.year(9);
    });
    reads("150 bytes, the last one a ;", "town;make 2" + " ".repeat(138) + ";", 2, x -> x.make(2));
    reads("150 bytes, the last one a blank", "town;make 2;" + " ".repeat(138), 2, x -> x.make(2));
    reads("150 bytes of ITEMS", "town;make 1;" + "wet 1;".repeat(23), 25, x -> { x.make(1); x.wet(0, 1); });
    cases.hold("A TOWN that is read takes the place of all but IMAGES, THE TEXT, THE FRACTION, STATUS", () -> {
      HouseFiddles x = Scenes.full();
      long above = x.part(0), below = x.part(1);
      cases.due("read()", x.read(), 2);
      int[] due = {0, 1, 0, 0, 0, 0, 0, 0, 0, 0, 150};
      for (int w = 0; w <= 10; w++) cases.due("count(" + w + ")", x.count(w), due[w]);
      cases.due("undo()", x.undo(), -3);
      for (int y = 0; y < 5; y++) cases.due("wet", x.wet(y, 0), 0);
      cases.due("part(0)", x.part(0), above);
      cases.due("part(1)", x.part(1), below);
      cases.due("from(0)", x.from(0), 1);
      cases.due("the IMAGE's BOARDS", x.count(0), 6);
      cases.due("from(1)", x.from(1), 1);
      cases.due("the IMAGE's BOARDS", x.count(0), 6);
    });
    cases.hold("a BOARD, an INSTRUMENT of a town read begin anew: no WORM, free", () -> {
      HouseFiddles x = Scenes.of("town;board 0 0 0 0;board 0 0 0 0;make 0;cut 0 0;worm 0;worm 1;");
      Scenes.read(x, "town;board 0 0 0 0;board 0 0 0 0;make 0;");
      cases.due("count(3)", x.count(3), 2);
      cases.due("count(4)", x.count(4), 0);
    });
    cases.hold("the town of a TEXT with a FAULT leaves nothing in the next one", () -> {
      HouseFiddles x = new HouseFiddles();
      cases.due("read()", Scenes.read(x, "town;wet 4 4 4 4 4;board 1 1 1 1;make 5;cut 0 0;worm 0;years 9;;"), -10 - 63);
      cases.due("read()", Scenes.read(x, "town;board 0 0 0 0;"), 2);
      cases.same("the town", town(x), "1 0 0 1 0 0 0 0 0 0 0 0 0 0 -1 0 0 0 0 0 ");
    });
    cases.hold("a TEXT may be read again", () -> {
      HouseFiddles x = Scenes.of("town;board 0 0 0 0;years 3;");
      long first = x.digest();
      x.year(5); x.make(0);
      cases.due("read()", x.read(), 3);
      cases.due("digest()", x.digest(), first);
    });
  }

  private static void tooEarly() {
    fault("it ends too early: an empty one", "", 0);
    fault("it ends too early: a blank alone", " ", 1);
    fault("it ends too early: 150 blanks", " ".repeat(150), 150);
    fault("it ends too early: 150 bytes, no ; behind", "town;make 2;wet" + " ".repeat(134) + "1", 150);
    fault("it ends too early: blanks behind what is not ended", "town;make 2  ", 13);
    String text = "town;wet 1 2;board 0 1 2 3;make 4;cut 0 0;worm 0;years 5;";
    for (int end = 0; end < text.length(); end++) {
      if (end > 0 && text.charAt(end - 1) == ';') continue;
      int from = end;
      while (from > 0 && Character.isLetter(text.charAt(from - 1))) from--;
      boolean word = end == from || !Character.isLetter(text.charAt(end));
      // a word that is cut short is none; behind all else the TEXT ends too early
      fault("it ends too early, at " + end, text.substring(0, end), word ? end : from);
    }
  }

  private static void words() {
    fault("a word that is none, first of all", "tow;", 0);
    fault("a word that is none: one letter more", "towns;", 0);
    fault("a word that is none: two words without a blank", "town;makemake 0;", 5);
    fault("a word that is none: a letter that is not small", "town;Make 0;", 5);
    fault("a word that is none: a KIND's name", "town;make door;", 10);
    fault("a word that is none, for each: wets", "town;wets 0;", 5);
    fault("a word that is none, for each: boards", "town;boards 0 0 0 0;", 5);
    fault("a word that is none, for each: boar", "town;boar 0 0 0 0;", 5);
    fault("a word that is none, for each: cuts", "town;board 0 0 0 0;make 0;cuts 0 0;", 26);
    fault("a word that is none, for each: worms", "town;board 0 0 0 0;worms 0;", 19);
    fault("a word that is none, for each: year", "town;year 1;", 5);
    fault("a word that is none, for each: of other letters", "town;yearz 1;", 5);
    fault("town again, as an ITEM", "town;town;", 5);
    fault("town again, at the end", "town;make 0; town;", 13);
    fault("town again, ahead of its ;", "town town;", 5);
    fault("anything ahead of it: each word", "make 0;town;", 0);
    fault("anything ahead of it: wet", "wet 0;town;", 0);
    fault("anything ahead of it: years", "  years 1;town;", 2);
    fault("anything ahead of it: board", " board 0 0 0 0;town;", 1);
    fault("anything ahead of it: a number", "7town;", 0);
    fault("anything ahead of it: a ;", ";town;", 0);
    fault("anything ahead of it: a byte that begins none", "#town;", 0);
    fault("a number in a word's place", "town;7;", 5);
    fault("a number in a word's place, the word behind", "town;0make 0;", 5);
    fault("a word in a number's place", "town;make make;", 10);
    fault("a word in a number's place: a board's AGE", "town;board 0 wet 0 0;", 13);
    fault("a word in a number's place: a cut's INSTRUMENT", "town;board 0 0 0 0;make 0;cut 0 cut;", 32);
    fault("a word in a ;'s place", "town;make 0 make 1;", 12);
    fault("a number in a ;'s place: town", "town 0;", 5);
    fault("a number in a ;'s place: board", "town;board 0 0 0 0 0;", 19);
    fault("a number in a ;'s place: make", "town;make 0 0;", 12);
    fault("a number in a ;'s place: cut", "town;board 0 0 0 0;make 0;cut 0 0 0;", 34);
    fault("a number in a ;'s place: worm", "town;board 0 0 0 0;worm 0 0;", 26);
    fault("a number in a ;'s place: years", "town;years 1 1;", 13);
  }

  /** Each word with one letter that is another, one less, one more. */
  private static void spoiledWords() {
    String town = "town;board 0 0 0 0;make 0;";
    String[] items = {"town;", "wet 0;", "board 0 0 0 0;", "make 0;", "cut 0 0;", "worm 0;", "years 1;"};
    for (String item : items) {
      String ahead = item.equals("town;") ? "" : town;
      int length = item.split("[ ;]")[0].length();
      for (int k = 0; k < length; k++) {
        String rest = item.substring(k + 1);
        fault("a word that is none: another letter at " + k + " of " + item, ahead + item.substring(0, k) + "q" + rest, ahead.length());
        fault("a word that is none: none at " + k + " of " + item, ahead + item.substring(0, k) + rest, ahead.length());
      }
      fault("a word that is none: one more ahead of " + item, ahead + "a" + item, ahead.length());
      fault("a word that is none: one more behind " + item, ahead + item.substring(0, length) + "z" + item.substring(length), ahead.length());
    }
  }

  private static void stops() {
    fault("; where there is none: an ITEM of nothing", "town;;", 5);
    fault("; where there is none: behind blanks", "town;make 0; ;", 13);
    fault("; where there is none: wet of no number", "town;wet;", 8);
    fault("; where there is none: make of no KIND", "town;make ;", 10);
    fault("; where there is none: worm of no BOARD", "town;worm;", 9);
    fault("; where there is none: years of no number", "town;years;", 10);
    fault("; where there is none: cut of no BOARD", "town;cut;", 8);
    fault("; where there is none: cut of no INSTRUMENT", "town;board 0 0 0 0;make 0;cut 0;", 31);
    for (int n = 0; n < 4; n++) fault("; where there is none: board of " + n, "town;board" + " 1".repeat(n) + ";", 10 + 2 * n);
  }

  private static void numbers() {
    fault("a 6th number", "town;wet 0 0 0 0 0 0;", 19);
    fault("a 6th number, as large as may be", "town;wet 4 4 4 4 4 4;", 19);
    fault("a run of three figures", "town;years 100;", 11);
    fault("a run of three figures, whatever they tell", "town;years 001;", 11);
    fault("a run of three figures: at its first one", "town;board 0 010 0 0;", 13);
    fault("a run of four figures", "town;make 0000;", 10);
    fault("a run of more", "town;make " + "1".repeat(140) + "", 10);
    fault("a run of three figures in a ;'s place", "town;make 0 123;", 12);
    fault("a run of three figures in a word's place", "town;123;", 5);
    fault("a number not as told: wet 5", "town;wet 5;", 9);
    fault("a number not as told: wet 10", "town;wet 0 10;", 11);
    fault("a number not as told: the fifth wet", "town;wet 0 0 0 0 5;", 17);
    fault("a number not as told: KIND 6 of a BOARD", "town;board 6 0 0 0;", 11);
    fault("a number not as told: KIND 10 of a BOARD", "town;board 10 0 0 0;", 11);
    fault("a number not as told: DAMP 10", "town;board 0 0 10 0;", 15);
    fault("a number not as told: HOUSE 4", "town;board 0 0 0 4;", 17);
    fault("a number not as told: HOUSE 10", "town;board 0 0 0 10;", 17);
    fault("a number not as told: KIND 6 of an INSTRUMENT", "town;make 6;", 10);
    fault("a number not as told: years 0", "town;years 0;", 11);
    fault("a number not as told: years 00", "town;years 00;", 11);
    fault("the first TOKEN that can not stand there, of two", "town;board 6 6 60 6;make 9;", 11);
  }

  private static void there() {
    fault("a 7th board, at its word", "town;" + SIX + " board 0 0 0 0;", 90);
    fault("a 7th board, at its word, whatever is behind", "town;" + SIX + "board", 89);
    fault("a 5th instrument, at its word", "town;" + FOUR + " make 0;", 34);
    fault("a 5th instrument, at its word, whatever is behind", "town;" + FOUR + "make;", 33);
    fault("a BOARD that is not there yet: cut, none there", "town;make 0;cut 0 0;", 16);
    fault("a BOARD that is not there yet: cut, one there", "town;make 0;board 0 0 0 0;cut 1 0;", 30);
    fault("a BOARD that is not there yet: cut, it comes behind", "town;make 0;cut 0 0;board 0 0 0 0;", 16);
    fault("a BOARD that is not there yet: worm, none there", "town;worm 0;", 10);
    fault("a BOARD that is not there yet: worm, one there", "town;board 0 0 0 0;worm 1;", 24);
    fault("a BOARD that is not there yet: 6 of six", "town;" + SIX + "worm 6;", 94);
    fault("a BOARD that is not there yet: a number of two figures", "town;" + SIX + "worm 10;", 94);
    fault("a BOARD that is not free", "town;board 0 0 0 0;make 0;make 0;cut 0 0;cut 0 1;", 45);
    fault("a BOARD that is not free, ahead of an INSTRUMENT that is not there", "town;board 0 0 0 0;make 0;cut 0 0;cut 0 9;", 38);
    fault("an INSTRUMENT that is not there yet: none there", "town;board 0 0 0 0;cut 0 0;", 25);
    fault("an INSTRUMENT that is not there yet: one there", "town;board 0 0 0 0;make 0;cut 0 1;", 32);
    fault("an INSTRUMENT that is not there yet: 4 of four", "town;board 0 0 0 0;" + FOUR + "cut 0 4;", 53);
    fault("an INSTRUMENT that has 4", "town;" + "board 0 0 0 0;".repeat(5) + "make 0;cut0 0;cut1 0;cut2 0;cut3 0;cut4 0;", 115);
    fault("a BOARD that is not free, ahead of an INSTRUMENT that has 4", "town;" + "board 0 0 0 0;".repeat(5) + "make 0;cut0 0;cut1 0;cut2 0;cut3 0;cut3 0;", 113);
  }

  private static void bytes() {
    int[] none = {0, 9, 10, 13, 31, '!', '"', ',', '-', '+', '.', '/', ':', '<', '=', '@', 'A', 'Z', '[', '_', '`', '{', '|', '~', 127};
    for (int c : none) {
      fault("a byte that begins none, in a word's place: " + c, "town;" + (char) c + "make 0;", 5);
      fault("a byte that begins none, in a number's place: " + c, "town;make " + (char) c + "0;", 10);
      fault("a byte that begins none, in a ;'s place: " + c, "town;make 0" + (char) c + ";", 11);
      fault("a byte that begins none, behind all: " + c, "town;make 0;" + (char) c, 12);
      fault("a byte that begins none is in no word: " + c, "to" + (char) c + "wn;", 0);
    }
  }

  public static void main(String[] args) {
    read();
    tooEarly();
    words();
    spoiledWords();
    stops();
    numbers();
    there();
    bytes();
    cases.end();
  }
}
