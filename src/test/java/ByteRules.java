import java.io.DataInputStream;
import java.io.IOException;
import java.nio.file.DirectoryStream;
import java.nio.file.Files;
import java.nio.file.Path;
import java.util.ArrayDeque;
import java.util.Deque;
import java.util.HashMap;
import java.util.List;
import java.util.Map;
import java.util.Set;
import java.util.TreeMap;
import java.util.TreeSet;

/** What of LANGUAGE.md can be seen from the compiled class: what it calls and how deep, where it indexes, divides, makes. */
public final class ByteRules {
  private static final int DEEPEST = 8;
  private static final Set<String> LIBRARY = Set.of("java/lang/Object.<init>()V", "java/lang/Math.max(II)I", "java/lang/Math.min(II)I",
      "java/lang/Math.abs(I)I", "java/lang/Integer.bitCount(I)I", "java/lang/String.length()I", "java/lang/String.charAt(I)C",
      "java/lang/System.arraycopy(Ljava/lang/Object;ILjava/lang/Object;II)V");
  /** They look at the divisor themselves, since it is not a number written there. */
  private static final Set<String> DIVIDING = Set.of("HouseFiddles.keepFraction(JJ)V", "HouseFiddles.commonDivisor(JJ)J");
  /** How long each instruction is, by its number; 0: its own bytes tell. */
  private static final String LENGTHS = "1".repeat(16) + "23233" + "2".repeat(5) + "1".repeat(28) + "2".repeat(5) + "1".repeat(73) + "3"
      + "1".repeat(20) + "3".repeat(16) + "2" + "00" + "1".repeat(6) + "3".repeat(7) + "55" + "3" + "2" + "3" + "11" + "33" + "11" + "0" + "4" + "33" + "55";

  private static final Map<String, Set<String>> calls = new TreeMap<>();
  private static final Set<String> faces = new TreeSet<>();
  private static final Map<String, Integer> depths = new HashMap<>();
  private static final Deque<String> open = new ArrayDeque<>();
  private static int wrong;

  private static void must(boolean holds, String what) {
    if (!holds) { wrong++; System.out.println("bytes: " + what); }
  }

  private final Object[] pool;
  private final String name;

  /** Goes over one class file. */
  private ByteRules(DataInputStream in) throws IOException {
    in.readInt(); in.readInt();
    pool = new Object[in.readUnsignedShort()];
    for (int k = 1; k < pool.length; k++) {
      int tag = in.readUnsignedByte();
      switch (tag) {
        case 1: pool[k] = in.readUTF(); break;
        case 3: case 4: in.readInt(); break;
        case 5: case 6: in.readLong(); k++; break;
        case 7: case 8: case 16: case 19: case 20: pool[k] = new int[] {in.readUnsignedShort()}; break;
        case 15: in.readUnsignedByte(); in.readUnsignedShort(); break;
        default: pool[k] = new int[] {in.readUnsignedShort(), in.readUnsignedShort()};
      }
    }
    in.readUnsignedShort();
    name = text(in.readUnsignedShort());
    in.readUnsignedShort();
    for (int k = in.readUnsignedShort(); k > 0; k--) in.readUnsignedShort();
    for (int k = in.readUnsignedShort(); k > 0; k--) { in.skipBytes(6); attributes(in, null); }
    for (int k = in.readUnsignedShort(); k > 0; k--) {
      int access = in.readUnsignedShort();
      String method = name + "." + pool[in.readUnsignedShort()] + pool[in.readUnsignedShort()];
      if (name.equals("HouseFiddles") && (access & 1) != 0) faces.add(method);
      attributes(in, method);
    }
  }

  private String text(int at) { return (String) pool[((int[]) pool[at])[0]]; }
  private String called(int at) {
    int[] ref = (int[]) pool[at], and = (int[]) pool[ref[1]];
    return text(ref[0]) + "." + pool[and[0]] + pool[and[1]];
  }

  private void attributes(DataInputStream in, String method) throws IOException {
    for (int k = in.readUnsignedShort(); k > 0; k--) {
      boolean code = "Code".equals(pool[in.readUnsignedShort()]);
      int length = in.readInt();
      if (!code) { in.readNBytes(length); continue; }
      in.readInt();
      byte[] bytes = in.readNBytes(in.readInt());
      int caught = in.readUnsignedShort();
      in.readNBytes(8 * caught);
      must(caught == 0, method + " catches");
      code(method, bytes);
      attributes(in, null);
    }
  }

  private static int at(byte[] code, int k, int bytes) {
    int v = 0;
    for (int b = 0; b < bytes; b++) v = v << 8 | code[k + b] & 255;
    return v;
  }

  private void code(String method, byte[] code) {
    Set<String> called = calls.computeIfAbsent(method, m -> new TreeSet<>());
    int before = 0;
    for (int k = 0; k < code.length; ) {
      int op = code[k] & 255;
      boolean indexes = op >= 0x2e && op <= 0x35 || op >= 0x4f && op <= 0x56;
      boolean divides = op == 0x6c || op == 0x6d || op == 0x70 || op == 0x71;
      boolean makes = op == 0xbb || op == 0xbc || op == 0xbd || op == 0xc5;
      must(!indexes || name.equals("HouseFiddles$Table"), method + " indexes");
      must(!divides || before >= 4 && before <= 8 || before >= 16 && before <= 20 || DIVIDING.contains(method), method + " divides");
      must(!makes || method.contains(".<init>"), method + " makes an object");
      must(op != 0xbf && op != 0xc0 && op != 0xc2 && op != 0xc3 && op != 0xba && op != 0xb3, method + " throws, casts, locks, has a lambda or static state");
      if (op >= 0xb6 && op <= 0xb9) called.add(called(at(code, k + 1, 2)));
      before = op;
      k += length(code, k, op);
    }
  }
  private static int length(byte[] code, int k, int op) {
    if (op == 0xc4) return (code[k + 1] & 255) == 0x84 ? 6 : 4;
    int pad = 3 - k % 4;
    if (op == 0xaa) return 1 + pad + 12 + 4 * (at(code, k + 1 + pad + 8, 4) - at(code, k + 1 + pad + 4, 4) + 1);
    if (op == 0xab) return 1 + pad + 8 + 8 * at(code, k + 1 + pad + 4, 4);
    return LENGTHS.charAt(op) - '0';
  }

  private static int depth(String method) {
    if (depths.containsKey(method)) return depths.get(method);
    if (open.contains(method)) { must(false, method + " calls itself: " + open); return 0; }
    must(calls.containsKey(method) || LIBRARY.contains(method), method + " is called");
    open.push(method);
    int deepest = 0;
    for (String one : calls.getOrDefault(method, Set.of())) deepest = Math.max(deepest, depth(one));
    open.pop();
    depths.put(method, deepest + 1);
    return deepest + 1;
  }

  public static void main(String[] args) throws IOException {
    must(LENGTHS.length() == 202, "the table of lengths has " + LENGTHS.length());
    try (DirectoryStream<Path> files = Files.newDirectoryStream(Path.of(args[0]), "HouseFiddles{,$*}.class")) {
      for (Path file : files) try (DataInputStream in = new DataInputStream(Files.newInputStream(file))) { new ByteRules(in); }
    }
    must(faces.size() == 44, faces.size() + " public methods were found");
    must(calls.size() > 100, "only " + calls.size() + " methods were found");
    int deepest = 0;
    for (String face : faces) {
      int depth = depth(face);
      must(depth <= DEEPEST, face + " goes " + depth + " deep");
      deepest = Math.max(deepest, depth);
    }
    Set<String> idle = new TreeSet<>(calls.keySet());
    idle.removeAll(depths.keySet());
    idle.removeIf(method -> method.endsWith(".<init>()V"));
    must(idle.isEmpty(), "nothing calls " + List.copyOf(idle));
    System.out.println("bytes: " + (wrong == 0 ? "all rules that are looked at are kept, the deepest calls are " + deepest : wrong + " faults"));
    if (wrong != 0) System.exit(1);
  }
}
