import java.util.ArrayList;
import java.util.List;

/** The document once more, in the plainest and slowest words: what HouseFiddles is held against. */
final class Oracle {
  static final class Wood {
    int kind, age, damp, house, worm, in = -1;
    Wood copy() {
      Wood w = new Wood();
      w.kind = kind; w.age = age; w.damp = damp; w.house = house; w.worm = worm; w.in = in;
      return w;
    }
  }
  static final class Refused extends RuntimeException {
    final int sort, answer;
    Refused(int sort, int answer) { super(null, null, false, false); this.sort = sort; this.answer = answer; }
  }
  static final class Fault extends RuntimeException {
    final int place;
    Fault(int place) { super(null, null, false, false); this.place = place; }
  }
  /** What an IMAGE keeps. */
  static final class State {
    List<Wood> boards = new ArrayList<>();
    List<Integer> kinds = new ArrayList<>();
    int[] wets = new int[5];
    int year;
    List<int[]> heard = new ArrayList<>(), notes = new ArrayList<>(), marks = new ArrayList<>();
    List<State> past = new ArrayList<>();
    State copy() {
      State s = new State();
      for (Wood w : boards) s.boards.add(w.copy());
      s.kinds.addAll(kinds);
      s.wets = wets.clone();
      s.year = year;
      s.heard.addAll(heard); s.notes.addAll(notes); s.marks.addAll(marks);
      s.past.addAll(past);
      return s;
    }
  }

  State now = new State();
  State[] images = new State[2];
  StringBuilder text = new StringBuilder();
  long above = 0, below = 1;
  int[] refused = new int[3];

  static void told(boolean fine) { if (!fine) throw new Refused(0, -2); }
  static void toldElse(int answer, boolean fine) { if (!fine) throw new Refused(0, answer); }
  static void may(boolean fine) { if (!fine) throw new Refused(1, -3); }
  static void room(boolean fine) { if (!fine) throw new Refused(2, -4); }
  static boolean in(int v, int lo, int hi) { return lo <= v && v <= hi; }
  boolean isB(int b) { return in(b, 0, now.boards.size() - 1); }
  boolean isI(int i) { return in(i, 0, now.kinds.size() - 1); }
  static boolean isS(int s) { return in(s, 0, 3); }

  static int wood(int kind, int s, int a, int d) {
    int door = Math.max(0, a / 4 + 6 - d);
    int dryDoor = a / 4 + 6;
    switch (kind) {
      case 0: return door;
      case 1: return s == 2 ? door + 3 : door;
      case 2: return s == 3 ? door + door : door;
      case 3: return s == 2 || s == 3 ? door + 5 : door;
      case 4: return s == 0 ? dryDoor + 4 : s == 2 ? dryDoor + 3 : dryDoor;
      default: return s == 3 ? (door + door) / 3 : door / 3;
    }
  }
  static int music(int kind, int s, int x, int h, int n) {
    int lent = h == 0 ? x : Math.max(0, x - 3 * (h - 1));
    switch (kind) {
      case 0: return x;
      case 1: return lent;
      case 2: return s == 0 ? x + x : x;
      case 3: return h >= 3 ? 0 : lent;
      case 4: return s == 3 ? x + n : x / 2 + x % 2;
      default: return s == 0 ? x + x : s == 1 ? x : 0;
    }
  }
  static int sound(Wood w, int s) {
    int v = wood(w.kind, s, w.age, w.damp);
    return w.worm == 1 ? v / 2 : v;
  }
  static int play(State t, int i, int s) {
    int x = 0, n = 0;
    boolean[] houses = new boolean[4];
    for (Wood w : t.boards) if (w.in == i) { x += sound(w, s); n++; houses[w.house] = true; }
    int h = 0;
    for (boolean b : houses) if (b) h++;
    return music(t.kinds.get(i), s, x, h, n);
  }
  static int manyIn(State t, int i) {
    int n = 0;
    for (Wood w : t.boards) if (w.in == i) n++;
    return n;
  }
  static void pass(State t) {
    int wet = t.wets[t.year % 5];
    List<Integer> gets = new ArrayList<>();
    for (int b = 0; b < t.boards.size(); b++)
      for (int c = 0; c < t.boards.size(); c++)
        if (Math.abs(b - c) == 1 && t.boards.get(c).worm == 1 && t.boards.get(b).in == t.boards.get(c).in) gets.add(b);
    for (Wood w : t.boards) {
      if (w.age < 99) w.age++;
      if (w.in == -1) w.damp = Math.min(9, w.damp + wet);
      else if (w.damp > 0) w.damp--;
    }
    for (int b : gets) t.boards.get(b).worm = 1;
    t.year++;
  }
  static int wormy(State t) {
    int n = 0;
    for (Wood w : t.boards) n += w.worm;
    return n;
  }
  void remember() {
    now.past.add(now.copy());
    if (now.past.size() > 8) now.past.remove(0);
  }

  int town() { int n = now.boards.size(); now = new State(); return n; }
  int wet(int y, int w) {
    told(in(y, 0, 4) && in(w, 0, 4));
    int was = now.wets[y];
    now.wets[y] = w;
    now.past.clear();
    return was;
  }
  int board(int kind, int age, int damp, int house) {
    told(in(kind, 0, 5) && in(age, 0, 99) && in(damp, 0, 9) && in(house, 0, 3));
    room(now.boards.size() < 6);
    addBoard(now, kind, age, damp, house);
    now.past.clear();
    return now.boards.size() - 1;
  }
  static void addBoard(State t, int kind, int age, int damp, int house) {
    Wood w = new Wood();
    w.kind = kind; w.age = age; w.damp = damp; w.house = house;
    t.boards.add(w);
  }
  int make(int kind) {
    told(in(kind, 0, 5));
    room(now.kinds.size() < 4);
    now.kinds.add(kind);
    now.past.clear();
    return now.kinds.size() - 1;
  }
  int worm(int b, int is) {
    told(isB(b) && in(is, 0, 1));
    int was = now.boards.get(b).worm;
    now.boards.get(b).worm = is;
    now.past.clear();
    return was;
  }
  int type(int c) {
    told(in(c, 0, 127));
    room(text.length() < 150);
    text.append((char) c);
    return text.length();
  }
  int clear() { int n = text.length(); text.setLength(0); return n; }
  int read() {
    try {
      Reading r = new Reading(text.toString());
      int items = r.all();
      now = r.t;
      return items;
    } catch (Fault f) {
      return -10 - f.place;
    }
  }

  /** Goes over the bytes one by one and knows at each what may stand there. */
  static final class Reading {
    final String s;
    int at;
    final State t = new State();
    Reading(String s) { this.s = s; }
    void blanks() { while (at < s.length() && s.charAt(at) == ' ') at++; }
    boolean atEnd() { blanks(); return at == s.length(); }
    String word() {
      if (atEnd()) throw new Fault(s.length());
      int from = at;
      while (at < s.length() && s.charAt(at) >= 'a' && s.charAt(at) <= 'z') at++;
      if (at == from) throw new Fault(from);
      return s.substring(from, at);
    }
    int placeOfNext() { blanks(); return at; }
    int number(int lo, int hi) {
      if (atEnd()) throw new Fault(s.length());
      int from = at;
      while (at < s.length() && s.charAt(at) >= '0' && s.charAt(at) <= '9') at++;
      if (at == from || at - from > 2) throw new Fault(from);
      int v = Integer.parseInt(s.substring(from, at));
      if (v < lo || v > hi) throw new Fault(from);
      return v;
    }
    void stop() {
      if (atEnd()) throw new Fault(s.length());
      if (s.charAt(at) != ';') throw new Fault(at);
      at++;
    }
    boolean stopComes() { blanks(); return at < s.length() && s.charAt(at) == ';'; }
    int all() {
      int place = placeOfNext();
      if (!word().equals("town")) throw new Fault(place);
      stop();
      int items = 1;
      while (!atEnd()) { item(); items++; }
      return items;
    }
    void item() {
      int place = placeOfNext();
      String w = word();
      if (w.equals("wet")) {
        t.wets[0] = number(0, 4);
        for (int y = 1; y < 5 && !stopComes(); y++) t.wets[y] = number(0, 4);
      } else if (w.equals("board")) {
        if (t.boards.size() == 6) throw new Fault(place);
        int k = number(0, 5), a = number(0, 99), d = number(0, 9), h = number(0, 3);
        addBoard(t, k, a, d, h);
      } else if (w.equals("make")) {
        if (t.kinds.size() == 4) throw new Fault(place);
        t.kinds.add(number(0, 5));
      } else if (w.equals("cut")) {
        int p = placeOfNext();
        int b = number(0, t.boards.size() - 1);
        if (t.boards.get(b).in != -1) throw new Fault(p);
        p = placeOfNext();
        int i = number(0, t.kinds.size() - 1);
        if (manyIn(t, i) == 4) throw new Fault(p);
        t.boards.get(b).in = i;
      } else if (w.equals("worm")) {
        t.boards.get(number(0, t.boards.size() - 1)).worm = 1;
      } else if (w.equals("years")) {
        int n = number(1, 99);
        for (int y = 0; y < n; y++) if (t.year < 999) pass(t);
      } else {
        throw new Fault(place);
      }
      stop();
    }
  }

  int year(int n) {
    told(in(n, 1, 60));
    remember();
    for (int y = 0; y < n; y++) if (now.year < 999) pass(now);
    return wormy(now);
  }
  int cuts(int b, int i) {
    told(isB(b) && isI(i));
    may(now.boards.get(b).in == -1);
    room(manyIn(now, i) < 4);
    remember();
    now.boards.get(b).in = i;
    return manyIn(now, i);
  }
  int takes(int b) {
    told(isB(b));
    may(now.boards.get(b).in != -1);
    remember();
    int was = now.boards.get(b).in;
    now.boards.get(b).in = -1;
    return was;
  }
  int dries(int b, int n) {
    told(isB(b) && in(n, 1, 9));
    may(now.boards.get(b).damp > 0);
    remember();
    Wood w = now.boards.get(b);
    w.damp = Math.max(0, w.damp - n);
    return w.damp;
  }
  int undo() {
    may(!now.past.isEmpty());
    State last = now.past.remove(now.past.size() - 1);
    now.boards = last.copy().boards;
    now.year = last.year;
    return now.year;
  }
  int of(int b, int what) {
    told(isB(b) && in(what, 0, 5));
    Wood w = now.boards.get(b);
    return new int[] {w.kind, w.age, w.damp, w.house, w.worm, w.in}[what];
  }
  int about(int i, int what) {
    told(isI(i) && in(what, 0, 2));
    if (what == 0) return now.kinds.get(i);
    if (what == 1) return manyIn(now, i);
    List<Integer> houses = new ArrayList<>();
    for (Wood w : now.boards) if (w.in == i && !houses.contains(w.house)) houses.add(w.house);
    return houses.size();
  }
  int sounds(int b, int s) { told(isB(b) && isS(s)); return sound(now.boards.get(b), s); }
  int plays(int i, int s) { told(isI(i) && isS(s)); return play(now, i, s); }
  int then(int i, int s, int m) {
    told(isI(i) && isS(s) && in(m, 0, 60));
    State t = now.copy();
    for (int y = 0; y < m; y++) pass(t);
    return play(t, i, s);
  }
  int waits(int b, int s, int x) {
    told(isB(b) && isS(s) && in(x, 1, 60));
    State t = now.copy();
    for (int m = 0; m <= 60; m++) {
      if (sound(t.boards.get(b), s) >= x) return m;
      pass(t);
    }
    return -1;
  }
  int dry(int i, int s, int x) {
    told(isI(i) && isS(s) && in(x, 1, 200));
    for (int n = 0; n <= 9; n++) {
      State t = now.copy();
      for (Wood w : t.boards) if (w.in == i) w.damp = Math.max(0, w.damp - n);
      if (play(t, i, s) >= x) return n;
    }
    return -1;
  }
  int tune(int i, int s, int x) {
    told(isI(i) && isS(s) && in(x, 0, 200));
    for (int many = 0; many <= 4; many++)
      for (int mask = 0; mask < 64; mask++) {
        if (Integer.bitCount(mask) != many) continue;
        State t = now.copy();
        boolean fits = true;
        for (int b = 0; b < 6; b++)
          if ((mask & 1 << b) != 0) {
            if (b >= t.boards.size() || t.boards.get(b).in != -1) { fits = false; break; }
            t.boards.get(b).in = i;
          }
        if (fits && manyIn(t, i) <= 4 && play(t, i, s) == x) return mask;
      }
    return -1;
  }
  /** All ways in rising order; the first of those by which the least plays most. */
  int best(int s, int b) {
    toldElse(-10, isS(s) && (b == -1 || isB(b)));
    if (now.kinds.isEmpty()) return -1;
    State t = now.copy();
    int[] found = {-1, -1};
    way(t, 0, s, b, found);
    return b == -1 ? found[0] : found[1];
  }
  private void way(State t, int at, int s, int b, int[] found) {
    if (at == t.boards.size()) {
      int least = 1000000;
      for (int i = 0; i < t.kinds.size(); i++) {
        if (manyIn(t, i) > 4) return;
        least = Math.min(least, play(t, i, s));
      }
      if (least > found[0]) { found[0] = least; found[1] = b == -1 ? -1 : t.boards.get(b).in; }
      return;
    }
    if (now.boards.get(at).in != -1) { way(t, at + 1, s, b, found); return; }
    for (int place = -1; place < t.kinds.size(); place++) {
      t.boards.get(at).in = place;
      way(t, at + 1, s, b, found);
    }
    t.boards.get(at).in = -1;
  }
  int together(int i, int s) {
    told(isI(i) && isS(s));
    int mask = 0;
    for (int j = 0; j < now.kinds.size(); j++) if (Math.abs(play(now, i, s) - play(now, j, s)) <= 4) mask |= 1 << j;
    return mask;
  }
  int orchestra() {
    int most = 0;
    for (int mask = 0; mask < 1 << now.kinds.size(); mask++) {
      boolean fits = true;
      for (int i = 0; i < 4; i++)
        for (int j = 0; j < 4; j++)
          if ((mask & 1 << i) != 0 && (mask & 1 << j) != 0)
            for (int s = 0; s < 4; s++) if (Math.abs(play(now, i, s) - play(now, j, s)) > 4) fits = false;
      if (fits && Integer.bitCount(mask) > Integer.bitCount(most)) most = mask;
    }
    return most;
  }
  int heard(int s, int x) {
    told(isS(s) && in(x, 0, 60));
    room(now.heard.size() < 6);
    now.heard.add(new int[] {s, x});
    return now.heard.size();
  }
  int whose() {
    int mask = 0;
    for (int b = 0; b < now.boards.size(); b++) {
      boolean fits = true;
      for (int[] h : now.heard) if (sound(now.boards.get(b), h[0]) != h[1]) fits = false;
      if (fits) mask |= 1 << b;
    }
    return mask;
  }
  static int mostAlike(List<Integer> values) {
    int most = 0;
    for (int v : values) {
      int n = 0;
      for (int w : values) if (v == w) n++;
      most = Math.max(most, n);
    }
    return most;
  }
  int tells() {
    int which = whose(), told = -1, fewest = 99;
    if (which == 0) return -1;
    for (int s = 0; s < 4; s++) {
      List<Integer> values = new ArrayList<>();
      for (int b = 0; b < 6; b++) if ((which & 1 << b) != 0) values.add(sound(now.boards.get(b), s));
      if (mostAlike(values) < fewest) { fewest = mostAlike(values); told = s; }
    }
    return told;
  }
  int note(int b, int a, int d, int s, int x) {
    told(isB(b) && in(a, 0, 99) && in(d, 0, 9) && isS(s) && in(x, 0, 60));
    room(now.notes.size() < 6);
    now.notes.add(new int[] {b, a, d, s, x});
    return now.notes.size();
  }
  int mark(int i, int x, int h, int n, int s, int y) {
    told(isI(i) && in(x, 0, 200) && in(h, 0, 4) && in(n, 0, 4) && isS(s) && in(y, 0, 400));
    room(now.marks.size() < 6);
    now.marks.add(new int[] {i, x, h, n, s, y});
    return now.marks.size();
  }
  int forget(int what) {
    told(in(what, 0, 2));
    List<int[]> l = what == 0 ? now.heard : what == 1 ? now.notes : now.marks;
    int n = l.size();
    l.clear();
    return n;
  }
  int is(int b) {
    told(isB(b));
    int mask = 63;
    for (int k = 0; k < 6; k++)
      for (int[] n : now.notes) if (n[0] == b && wood(k, n[3], n[1], n[2]) != n[4]) mask &= ~(1 << k);
    return mask;
  }
  int look(int b) {
    told(isB(b));
    int left = is(b), told = -1, fewest = 99;
    if (left == 0) return -1;
    for (int s = 0; s < 4; s++)
      for (int d = 0; d <= 9; d++) {
        List<Integer> values = new ArrayList<>();
        for (int k = 0; k < 6; k++) if ((left & 1 << k) != 0) values.add(wood(k, s, now.boards.get(b).age, d));
        if (mostAlike(values) < fewest) { fewest = mostAlike(values); told = 10 * s + d; }
      }
    return told;
  }
  int kinds(int i) {
    told(isI(i));
    int mask = 63;
    for (int k = 0; k < 6; k++)
      for (int[] m : now.marks) if (m[0] == i && music(k, m[4], m[1], m[2], m[3]) != m[5]) mask &= ~(1 << k);
    return mask;
  }
  int ask(int i) {
    told(isI(i));
    int left = kinds(i), told = -1, fewest = 99;
    if (left == 0) return -1;
    for (int s = 0; s < 4; s++)
      for (int h = 0; h <= 4; h++)
        for (int n = 0; n <= 4; n++) {
          List<Integer> values = new ArrayList<>();
          for (int k = 0; k < 6; k++) if ((left & 1 << k) != 0) values.add(music(k, s, 20, h, n));
          if (mostAlike(values) < fewest) { fewest = mostAlike(values); told = 100 * s + 10 * h + n; }
        }
    return told;
  }
  static int[] get(int worth, int i, int j) {
    return i >= j ? new int[] {worth - i, -(j / 2)} : new int[] {-(i / 2), worth - j};
  }
  int bids(int i, int k) {
    toldElse(-10, isI(i) && k >= -1);
    int worth = Math.min(9, play(now, i, 0));
    List<Integer> rest = new ArrayList<>();
    for (int p = 0; p <= 9; p++)
      for (int q = 0; q <= 9; q++) {
        boolean rests = true;
        for (int o = 0; o <= 9; o++) {
          if (get(worth, o, q)[0] > get(worth, p, q)[0]) rests = false;
          if (get(worth, p, o)[1] > get(worth, p, q)[1]) rests = false;
        }
        if (rests) rest.add(10 * p + q);
      }
    return k == -1 ? rest.size() : k < rest.size() ? rest.get(k) : -5;
  }
  int weeps(int i, int s, int c) {
    told(isI(i) && isS(s) && in(c, 0, 10));
    long[] sum = {0, 1};
    weep(now.copy(), 0, i, s, c, 1, 1, sum);
    long a = sum[0], b = sum[1];
    for (long p : new long[] {2, 5}) while (a % p == 0 && b % p == 0) { a /= p; b /= p; }
    above = a;
    below = b;
    return 1;
  }
  private void weep(State t, int at, int i, int s, int c, long odds, long whole, long[] sum) {
    if (at == t.boards.size()) { sum[0] += odds * play(t, i, s); sum[1] = whole; return; }
    Wood w = t.boards.get(at);
    if (w.in != i) { weep(t, at + 1, i, s, c, odds, whole, sum); return; }
    int damp = w.damp;
    weep(t, at + 1, i, s, c, odds * (10 - c), whole * 10, sum);
    w.damp = Math.min(9, damp + 3);
    weep(t, at + 1, i, s, c, odds * c, whole * 10, sum);
    w.damp = damp;
  }
  int generations(int seed, int n) {
    told(in(seed, 0, 999999) && in(n, 0, 60));
    State t = now.copy();
    java.math.BigInteger x = java.math.BigInteger.valueOf(seed);
    int all = 0;
    for (int y = 0; y < n; y++) {
      x = x.multiply(java.math.BigInteger.valueOf(1103515245)).add(java.math.BigInteger.valueOf(12345))
          .mod(java.math.BigInteger.valueOf(2147483648L));
      int v = x.intValueExact();
      int i = v / 65536 % 4;
      if (isI(i)) all += play(t, i, v / 1048576 % 4);
      pass(t);
    }
    return all;
  }
  long part(int what) { told(in(what, 0, 1)); return what == 0 ? above : below; }
  int image(int i) { told(in(i, 0, 1)); images[i] = now.copy(); return 1; }
  int from(int i) { told(in(i, 0, 1)); may(images[i] != null); now = images[i].copy(); return 1; }
  int status(int what) { toldElse(-1, in(what, 0, 2)); return refused[what]; }
  int count(int what) {
    told(in(what, 0, 10));
    int damp = 0;
    for (Wood w : now.boards) damp += w.damp;
    return new int[] {now.boards.size(), now.kinds.size(), now.year, manyIn(now, -1), wormy(now), damp,
      now.heard.size(), now.notes.size(), now.marks.size(), now.past.size(), text.length()}[what];
  }
  long digest() {
    List<Long> all = new ArrayList<>();
    for (int w = 0; w <= 10; w++) all.add((long) count(w));
    for (int w : now.wets) all.add((long) w);
    for (int b = 0; b < now.boards.size(); b++) for (int w = 0; w < 6; w++) all.add((long) of(b, w));
    for (int k : now.kinds) all.add((long) k);
    for (int[] r : now.heard) for (int v : r) all.add((long) v);
    for (int[] r : now.notes) for (int v : r) all.add((long) v);
    for (int[] r : now.marks) for (int v : r) all.add((long) v);
    all.add(above);
    all.add(below);
    long h = 1523;
    for (long v : all) h = 31 * h + v;
    return h;
  }

  static final String[] CALLS = {"town", "wet", "board", "make", "worm", "type", "clear", "read", "year", "cuts", "takes",
    "dries", "undo", "of", "about", "sounds", "plays", "then", "waits", "dry", "tune", "best", "together", "orchestra",
    "heard", "whose", "tells", "note", "mark", "forget", "is", "look", "kinds", "ask", "bids", "weeps", "generations",
    "part", "image", "from", "status", "count", "digest"};

  long call(String name, int[] p) {
    try {
      return dispatch(name, p);
    } catch (Refused r) {
      refused[r.sort]++;
      return r.answer;
    }
  }
  private long dispatch(String name, int[] p) {
    switch (name) {
      case "town": return town();
      case "wet": return wet(p[0], p[1]);
      case "board": return board(p[0], p[1], p[2], p[3]);
      case "make": return make(p[0]);
      case "worm": return worm(p[0], p[1]);
      case "type": return type(p[0]);
      case "clear": return clear();
      case "read": return read();
      case "year": return year(p[0]);
      case "cuts": return cuts(p[0], p[1]);
      case "takes": return takes(p[0]);
      case "dries": return dries(p[0], p[1]);
      case "undo": return undo();
      case "of": return of(p[0], p[1]);
      case "about": return about(p[0], p[1]);
      case "sounds": return sounds(p[0], p[1]);
      case "plays": return plays(p[0], p[1]);
      case "then": return then(p[0], p[1], p[2]);
      case "waits": return waits(p[0], p[1], p[2]);
      case "dry": return dry(p[0], p[1], p[2]);
      case "tune": return tune(p[0], p[1], p[2]);
      case "best": return best(p[0], p[1]);
      case "together": return together(p[0], p[1]);
      case "orchestra": return orchestra();
      case "heard": return heard(p[0], p[1]);
      case "whose": return whose();
      case "tells": return tells();
      case "note": return note(p[0], p[1], p[2], p[3], p[4]);
      case "mark": return mark(p[0], p[1], p[2], p[3], p[4], p[5]);
      case "forget": return forget(p[0]);
      case "is": return is(p[0]);
      case "look": return look(p[0]);
      case "kinds": return kinds(p[0]);
      case "ask": return ask(p[0]);
      case "bids": return bids(p[0], p[1]);
      case "weeps": return weeps(p[0], p[1], p[2]);
      case "generations": return generations(p[0], p[1]);
      case "part": return part(p[0]);
      case "image": return image(p[0]);
      case "from": return from(p[0]);
      case "status": return status(p[0]);
      case "count": return count(p[0]);
      case "digest": return digest();
      default: throw new IllegalArgumentException(name);
    }
  }
}
