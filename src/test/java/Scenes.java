/** Towns that cases begin with, and all that can be seen of one. */
final class Scenes {
  private Scenes() { }

  static void type(HouseFiddles x, String text) {
    x.clear();
    for (int k = 0; k < text.length(); k++) x.type(text.charAt(k));
  }

  static int read(HouseFiddles x, String text) {
    type(x, text);
    return x.read();
  }

  static HouseFiddles of(String text) {
    HouseFiddles x = new HouseFiddles();
    if (read(x, text) < 0) throw new IllegalStateException(text);
    return x;
  }

  /** YEAR 990 to 999, by THE TEXT. */
  static HouseFiddles late(int year, String more) {
    String nines = "years99;".repeat(10);
    return of("town;" + nines + (year == 990 ? "" : "years" + (year - 990) + ";") + more);
  }

  /** Four BOARDS, two INSTRUMENTS, some of all else that may be there; nothing is full. */
  static HouseFiddles some() {
    HouseFiddles x = of("town;wet 1 0 2 0 3;board 0 40 5 0;board 1 20 3 1;board 2 10 0 2;board 3 8 9 3;make 1;make 4;cut 0 0;worm 2;");
    x.heard(0, 4);
    x.note(1, 20, 3, 2, 11);
    x.mark(0, 9, 1, 1, 0, 9);
    x.year(2);
    x.image(0);
    x.dries(3, 2);
    x.cuts(1, 1);
    x.image(1);
    x.takes(1);
    x.heard(3, 5);
    x.weeps(0, 0, 3);
    type(x, "town;wet 0 4;board 4 7 7 1;make 3;");
    return x;
  }

  /** As many of all as may be: BOARDS, INSTRUMENTS, IN one, HEARD, NOTES, MARKS, bytes, to undo. */
  static HouseFiddles full() {
    HouseFiddles x = new HouseFiddles();
    for (int b = 0; b < 6; b++) x.board(b, 16 * b, b, b % 4);
    for (int i = 0; i < 4; i++) x.make(i);
    x.wet(0, 2);
    x.worm(5, 1);
    for (int k = 0; k < 6; k++) { x.heard(k % 4, k); x.note(k, 9 * k, k, k % 4, k); x.mark(k % 4, k, k % 5, 4 - k % 5, k % 4, k); }
    x.year(1);
    x.image(1);
    for (int b = 0; b < 4; b++) x.cuts(b, 0);
    for (int k = 0; k < 4; k++) x.year(1);
    x.image(0);
    x.weeps(0, 3, 7);
    type(x, "town;make 2;" + " ".repeat(138));
    return x;
  }

  /** The digest of these values. */
  static long mixed(long... values) {
    long h = 1523;
    for (long v : values) h = 31 * h + v;
    return h;
  }

  static String refused(HouseFiddles x) { return x.status(0) + " BAD, " + x.status(1) + " NO, " + x.status(2) + " FULL"; }

  /** All that can be seen but STATUS: what there is, what may be undone, THE TEXT, both IMAGES. It spends the object. */
  static String all(HouseFiddles x) {
    StringBuilder s = new StringBuilder("now ").append(downwards(x));
    s.append("; the text ").append(x.read()).append(' ').append(x.digest());
    for (int i = 0; i < 2; i++) s.append("; image ").append(i).append(' ').append(x.from(i)).append(' ').append(downwards(x));
    return s.toString();
  }

  private static String downwards(HouseFiddles x) {
    StringBuilder s = new StringBuilder().append(x.digest());
    for (int k = 0; k < 10; k++) s.append(' ').append(x.undo()).append(' ').append(x.digest());
    return s.toString();
  }
}
