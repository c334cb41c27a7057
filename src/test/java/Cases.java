/** Cases with a name of their own: each holds the class to one sentence of the document. */
final class Cases {
  private final String about;
  private String sentence;
  private int held, broken, looks;
  private boolean wrong;

  Cases(String about) { this.about = about; }

  void hold(String sentence, Runnable calls) {
    this.sentence = sentence;
    wrong = false;
    looks = 0;
    try {
      calls.run();
    } catch (RuntimeException e) {
      fail("threw " + e);
    }
    if (looks == 0) fail("nothing is looked at");
    if (wrong) broken++; else held++;
  }

  void due(String call, long got, long want) { same(call, got, want); }

  /** One call more often: the n-th answer is the n-th that is due. */
  void row(String calls, long[] got, long... want) { same(calls, java.util.Arrays.toString(got), java.util.Arrays.toString(want)); }

  void same(String call, Object got, Object want) {
    looks++;
    if (!got.equals(want)) fail(call + " answered " + got + ", due is " + want);
  }

  private void fail(String what) {
    wrong = true;
    System.out.println(about + ": '" + sentence + "': " + what);
  }

  void end() {
    System.out.println(about + ": " + held + " sentences hold, " + broken + " are broken");
    if (broken > 0) System.exit(1);
  }
}
