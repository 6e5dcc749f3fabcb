/** Each promise by itself: ordinary calls, the edges that the document names, and wrong calls. */
public final class PromiseTest {
  private static final int LOW = Integer.MIN_VALUE, HIGH = Integer.MAX_VALUE;
  private static final int NONE = FuseBench.NONE, BAD = FuseBench.BAD, NO = FuseBench.NO;
  private static final int[] PRIMES = {2, 3, 5, 7, 11, 13};

  private static int wrong = 0;
  private static int promise = 0;

  private static void due(String call, long got, long want) {
    if (got != want) {
      wrong++;
      System.out.println("promise " + promise + ": " + call + " gave " + got + ", due is " + want);
    }
  }

  /** The digest of tables told as rows (RANK first, then all numbers) and a word. */
  private static long digestOf(int[][] tables, int... word) {
    long h = 223;
    for (int[] table : tables) {
      for (int v : table) {
        h = 31 * h + v;
      }
    }
    h = 31 * h + word.length;
    for (int v : word) {
      h = 31 * h + v;
    }
    return h;
  }

  private static int[] single() {
    return new int[] {1, 1};
  }

  /** Says a table by rows of N(i, j, 0 ..), told one after the other. */
  private static void dueNumbers(FuseBench x, int t, int rank, int... numbers) {
    int n = 0;
    for (int i = 0; i < rank; i++) {
      for (int j = 0; j < rank; j++) {
        for (int k = 0; k < rank; k++) {
          due("N(" + i + ", " + j + ", " + k + ") of " + t, x.at(t, i, j, k), numbers[n++]);
        }
      }
    }
    due("N beyond the rank of " + t, x.at(t, rank, 0, 0), BAD);
  }

  private static void dueFault(FuseBench x, int t, int... parts) {
    for (int what = 0; what < 5; what++) {
      due("fault(" + t + ", " + what + ")", x.fault(t, what), parts[what]);
    }
  }

  /** A RANK 3 table that has PARTNERS but is not RIGHT. */
  private static FuseBench broken() {
    FuseBench x = new FuseBench();
    x.rank(0, 3);
    x.put(0, 1, 1, 0, 1);
    x.put(0, 2, 2, 0, 1);
    return x;
  }

  private static void newObject() {
    promise = 1;
    FuseBench x = new FuseBench();
    for (int t = 0; t < 6; t++) {
      dueNumbers(x, t, 1, 1);
    }
    due("empty()", x.empty(), 0);
    int[][] all = {single(), single(), single(), single(), single(), single()};
    due("digest()", x.digest(), digestOf(all));
  }

  private static void rank() {
    promise = 2;
    FuseBench x = new FuseBench();
    due("rank(5, 3)", x.rank(5, 3), 1);
    dueNumbers(x, 5, 3, 1, 0, 0, 0, 1, 0, 0, 0, 1, 0, 1, 0, 0, 0, 0, 0, 0, 0, 0, 0, 1, 0, 0, 0, 0, 0, 0);
    x.put(5, 1, 1, 1, 7);
    x.put(5, 0, 0, 0, 4);
    x.put(5, 2, 2, 2, 8);
    due("rank(5, 2)", x.rank(5, 2), 1);
    dueNumbers(x, 5, 2, 1, 0, 0, 1, 0, 1, 0, 0);
    due("rank(5, 5)", x.rank(5, 5), 1);
    due("at(5, 2, 2, 2)", x.at(5, 2, 2, 2), 0);
    due("at(5, 4, 0, 4)", x.at(5, 4, 0, 4), 1);
    due("at(5, 0, 4, 4)", x.at(5, 0, 4, 4), 1);
    long before = x.digest();
    for (int bad : new int[] {LOW, -1, 0, 6, HIGH}) {
      due("rank(5, " + bad + ")", x.rank(5, bad), BAD);
    }
    for (int bad : new int[] {LOW, -1, 6, HIGH}) {
      due("rank(" + bad + ", 1)", x.rank(bad, 1), BAD);
    }
    due("digest()", x.digest(), before);
  }

  private static void putAndAt() {
    promise = 3;
    FuseBench x = new FuseBench();
    x.rank(2, 4);
    due("put(2, 3, 1, 2, 9)", x.put(2, 3, 1, 2, 9), 0);
    due("put(2, 3, 1, 2, 5)", x.put(2, 3, 1, 2, 5), 9);
    due("put(2, 0, 0, 0, 0)", x.put(2, 0, 0, 0, 0), 1);
    promise = 4;
    due("at(2, 3, 1, 2)", x.at(2, 3, 1, 2), 5);
    due("at(2, 1, 3, 2)", x.at(2, 1, 3, 2), 0);
    due("at(2, 3, 2, 1)", x.at(2, 3, 2, 1), 0);
    due("at(2, 0, 0, 0)", x.at(2, 0, 0, 0), 0);
    due("at(3, 0, 0, 0)", x.at(3, 0, 0, 0), 1);
    long before = x.digest();
    for (int bad : new int[] {LOW, -1, 4, 5, HIGH}) {
      promise = 3;
      due("put i " + bad, x.put(2, bad, 0, 0, 1), BAD);
      due("put j " + bad, x.put(2, 0, bad, 0, 1), BAD);
      due("put k " + bad, x.put(2, 0, 0, bad, 1), BAD);
      promise = 4;
      due("at i " + bad, x.at(2, bad, 0, 0), BAD);
      due("at j " + bad, x.at(2, 0, bad, 0), BAD);
      due("at k " + bad, x.at(2, 0, 0, bad), BAD);
    }
    for (int bad : new int[] {LOW, -1, 6, HIGH}) {
      promise = 3;
      due("put t " + bad, x.put(bad, 0, 0, 0, 1), BAD);
      promise = 4;
      due("at t " + bad, x.at(bad, 0, 0, 0), BAD);
    }
    promise = 3;
    for (int bad : new int[] {LOW, -1, 10, HIGH}) {
      due("put v " + bad, x.put(2, 0, 0, 0, bad), BAD);
    }
    due("digest()", x.digest(), before);
  }

  private static void fault() {
    promise = 5;
    FuseBench x = new FuseBench();
    dueFault(x, 0, 0, NONE, NONE, NONE, NONE);
    x.group(0, 3);
    x.put(0, 2, 0, 1, 3);
    dueFault(x, 0, 1, 2, 1, NONE, NONE);
    x.put(0, 0, 1, 2, 1);
    dueFault(x, 0, 1, 1, 2, NONE, NONE);
    x.group(0, 3);
    x.put(0, 2, 1, 1, 1);
    dueFault(x, 0, 2, 1, 2, 1, NONE);
    x.group(0, 3);
    x.put(0, 2, 2, 0, 1);
    dueFault(x, 0, 3, 2, NONE, NONE, NONE);
    x.put(0, 1, 2, 0, 2);
    x.put(0, 2, 1, 0, 2);
    x.put(0, 2, 2, 0, 0);
    dueFault(x, 0, 3, 1, NONE, NONE, NONE);
    x.group(0, 3);
    x.put(0, 2, 2, 2, 1);
    dueFault(x, 0, 4, 1, 2, 2, NONE);
    x.near(0, 1, 2);
    dueFault(x, 0, 0, NONE, NONE, NONE, NONE);
    x.put(0, 0, 0, 0, 0);
    dueFault(x, 0, 1, 0, 0, NONE, NONE);
    FuseBench y = broken();
    dueFault(y, 0, 5, 1, 1, 2, 2);
    for (int bad : new int[] {LOW, -1, 5, HIGH}) {
      due("fault(0, " + bad + ")", x.fault(0, bad), BAD);
    }
    for (int bad : new int[] {LOW, -1, 6, HIGH}) {
      due("fault(" + bad + ", 0)", x.fault(bad, 0), BAD);
    }
  }

  private static void partner() {
    promise = 6;
    FuseBench x = new FuseBench();
    due("partner(0, 0)", x.partner(0, 0), 0);
    x.group(0, 5);
    for (int i = 0; i < 5; i++) {
      due("partner(0, " + i + ")", x.partner(0, i), (5 - i) % 5);
    }
    x.near(1, 3, 4);
    due("partner(1, 1)", x.partner(1, 1), 2);
    due("partner(1, 3)", x.partner(1, 3), 3);
    due("partner(1, 4)", x.partner(1, 4), BAD);
    due("partner(1, -1)", x.partner(1, -1), BAD);
    due("partner(-1, 0)", x.partner(-1, 0), BAD);
    due("partner(6, 0)", x.partner(6, 0), BAD);
    FuseBench y = broken();
    due("partner(0, 1) of none right", y.partner(0, 1), NO);
    due("partner(0, 3) of none right", y.partner(0, 3), BAD);
  }

  private static void copy() {
    promise = 7;
    FuseBench x = new FuseBench();
    x.near(4, 1, 6);
    due("copy(4, 1)", x.copy(4, 1), 2);
    dueNumbers(x, 1, 2, 1, 0, 0, 1, 0, 1, 1, 6);
    x.put(4, 1, 1, 1, 3);
    due("at(1, 1, 1, 1)", x.at(1, 1, 1, 1), 6);
    due("copy(4, 4)", x.copy(4, 4), 2);
    due("at(4, 1, 1, 1)", x.at(4, 1, 1, 1), 3);
    x.group(2, 5);
    due("copy(4, 2)", x.copy(4, 2), 2);
    due("at(2, 2, 0, 0)", x.at(2, 2, 0, 0), BAD);
    long before = x.digest();
    for (int bad : new int[] {LOW, -1, 6, HIGH}) {
      due("copy(" + bad + ", 0)", x.copy(bad, 0), BAD);
      due("copy(0, " + bad + ")", x.copy(0, bad), BAD);
    }
    due("digest()", x.digest(), before);
  }

  private static void group() {
    promise = 8;
    FuseBench x = new FuseBench();
    due("group(0, 5)", x.group(0, 5), 1);
    for (int i = 0; i < 5; i++) {
      for (int j = 0; j < 5; j++) {
        for (int k = 0; k < 5; k++) {
          due("group of 5", x.at(0, i, j, k), (i + j) % 5 == k ? 1 : 0);
        }
      }
    }
    due("group(0, 2)", x.group(0, 2), 1);
    dueNumbers(x, 0, 2, 1, 0, 0, 1, 0, 1, 1, 0);
    due("group(0, 1)", x.group(0, 1), 1);
    dueNumbers(x, 0, 1, 1);
    long before = x.digest();
    for (int bad : new int[] {LOW, -1, 0, 6, HIGH}) {
      due("group(0, " + bad + ")", x.group(0, bad), BAD);
    }
    due("group(6, 1)", x.group(6, 1), BAD);
    due("group(-1, 1)", x.group(-1, 1), BAD);
    due("digest()", x.digest(), before);
  }

  private static void near() {
    promise = 9;
    FuseBench x = new FuseBench();
    x.group(0, 5);
    due("near(0, 2, 7)", x.near(0, 2, 7), 1);
    dueNumbers(x, 0, 3, 1, 0, 0, 0, 1, 0, 0, 0, 1, 0, 1, 0, 1, 0, 0, 0, 0, 1, 0, 0, 1, 0, 0, 1, 1, 1, 7);
    due("near(0, 1, 0)", x.near(0, 1, 0), 1);
    dueNumbers(x, 0, 2, 1, 0, 0, 1, 0, 1, 1, 0);
    due("near(0, 4, 9)", x.near(0, 4, 9), 1);
    due("at(0, 4, 4, 4)", x.at(0, 4, 4, 4), 9);
    due("at(0, 1, 3, 0)", x.at(0, 1, 3, 0), 1);
    long before = x.digest();
    for (int bad : new int[] {LOW, -1, 0, 5, HIGH}) {
      due("near(0, " + bad + ", 1)", x.near(0, bad, 1), BAD);
    }
    for (int bad : new int[] {LOW, -1, 10, HIGH}) {
      due("near(0, 1, " + bad + ")", x.near(0, 1, bad), BAD);
    }
    due("near(6, 1, 1)", x.near(6, 1, 1), BAD);
    due("near(-1, 1, 1)", x.near(-1, 1, 1), BAD);
    due("digest()", x.digest(), before);
  }

  private static void together() {
    promise = 10;
    FuseBench x = new FuseBench();
    x.near(0, 1, 3);
    x.group(1, 2);
    due("together(0, 1, 2)", x.together(0, 1, 2), 4);
    // KIND 2 is KIND 1 of the first with KIND 0 of the second one.
    due("at(2, 2, 2, 2)", x.at(2, 2, 2, 2), 3);
    due("at(2, 2, 3, 3)", x.at(2, 2, 3, 3), 3);
    due("at(2, 3, 3, 2)", x.at(2, 3, 3, 2), 3);
    due("at(2, 1, 1, 0)", x.at(2, 1, 1, 0), 1);
    due("at(2, 1, 1, 2)", x.at(2, 1, 1, 2), 0);
    due("together(1, 0, 1)", x.together(1, 0, 1), 4);
    due("at(1, 1, 1, 1)", x.at(1, 1, 1, 1), 3);
    due("at(1, 2, 2, 0)", x.at(1, 2, 2, 0), 1);
    due("at(1, 3, 3, 1)", x.at(1, 3, 3, 1), 3);
    x.group(3, 5);
    due("together(3, 4, 4)", x.together(3, 4, 4), 5);
    due("like(3, 4)", x.like(3, 4), 4);
    x.near(5, 1, 4);
    long before = x.digest();
    due("together(0, 5, 5): 12", x.together(0, 5, 5), NO);
    due("together(0, 2, 5): 8 kinds", x.together(0, 2, 5), NO);
    due("together(3, 0, 0): 10 kinds", x.together(3, 0, 0), NO);
    for (int bad : new int[] {LOW, -1, 6, HIGH}) {
      due("together a " + bad, x.together(bad, 3, 3), BAD);
      due("together b " + bad, x.together(3, bad, 3), BAD);
      due("together to " + bad, x.together(3, 3, bad), BAD);
    }
    due("digest()", x.digest(), before);
    x.rank(0, 1);
    x.rank(1, 1);
    x.put(0, 0, 0, 0, 3);
    x.put(1, 0, 0, 0, 3);
    due("together(0, 1, 2) of none right", x.together(0, 1, 2), 1);
    due("at(2, 0, 0, 0)", x.at(2, 0, 0, 0), 9);
  }

  private static void listAndTake() {
    promise = 11;
    FuseBench x = new FuseBench();
    due("list(2, 2, 0)", x.list(2, 2, 0), 3);
    due("list(3, 2, 1)", x.list(3, 2, 1), 1);
    due("list(4, 1, 0)", x.list(4, 1, 0), 22);
    for (int bad : new int[] {LOW, -1, 0, 1, 5, HIGH}) {
      due("list r " + bad, x.list(bad, 1, 0), BAD);
    }
    for (int bad : new int[] {LOW, -1, 0, 4, HIGH}) {
      due("list m " + bad, x.list(3, bad, 0), BAD);
      due("list m " + bad, x.list(2, bad, 0), BAD);
    }
    for (int bad : new int[] {LOW, -1, 2, HIGH}) {
      due("list p " + bad, x.list(3, 1, bad), BAD);
    }
    due("list(2, 3, 1)", x.list(2, 3, 1), BAD);
    due("list(4, 3, 1)", x.list(4, 3, 1), BAD);
    promise = 12;
    for (int a = 0; a < 4; a++) {
      due("take(0, 2, 3, 0, " + a + ")", x.take(0, 2, 3, 0, a), 1);
      dueNumbers(x, 0, 2, 1, 0, 0, 1, 0, 1, 1, a);
    }
    due("take(0, 3, 3, 1, 0)", x.take(0, 3, 3, 1, 0), 1);
    x.group(1, 3);
    due("like(0, 1)", x.like(0, 1), 2);
    takeInOrder(x, 3, 3, 0);
    takeInOrder(x, 4, 1, 0);
    takeInOrder(x, 4, 1, 1);
    long before = x.digest();
    due("take(0, 2, 3, 0, 4)", x.take(0, 2, 3, 0, 4), NO);
    due("take(0, 2, 3, 0, HIGH)", x.take(0, 2, 3, 0, HIGH), NO);
    due("take(0, 2, 3, 0, LOW)", x.take(0, 2, 3, 0, LOW), BAD);
    due("take(6, 2, 3, 0, 0)", x.take(6, 2, 3, 0, 0), BAD);
    due("take(-1, 2, 3, 0, 0)", x.take(-1, 2, 3, 0, 0), BAD);
    due("take(0, 2, 3, 1, 9)", x.take(0, 2, 3, 1, 9), BAD);
    due("take(0, 4, 2, 0, 9)", x.take(0, 4, 2, 0, 9), BAD);
    due("take(0, 1, 1, 0, 0)", x.take(0, 1, 1, 0, 0), BAD);
    due("digest()", x.digest(), before);
  }

  /** Each one taken is RIGHT, has the PARTNERS due, and comes after the one before. */
  private static void takeInOrder(FuseBench x, int r, int m, int p) {
    int many = x.list(r, m, p);
    String before = "";
    for (int n = 0; n < many; n++) {
      due("take " + n, x.take(4, r, m, p, n), 1);
      due("fault of " + n, x.fault(4, 0), 0);
      due("partner of 1", x.partner(4, 1), p == 1 ? 2 : 1);
      StringBuilder numbers = new StringBuilder();
      for (int i = 0; i < r; i++) {
        for (int j = 0; j < r; j++) {
          for (int k = 0; k < r; k++) {
            numbers.append(x.at(4, i, j, k));
          }
        }
      }
      due("in order at " + n, before.compareTo(numbers.toString()) < 0 ? 1 : 0, 1);
      before = numbers.toString();
    }
    due("take beyond", x.take(4, r, m, p, many), NO);
  }

  private static void letterAndEmpty() {
    promise = 13;
    FuseBench x = new FuseBench();
    for (int n = 0; n < 14; n++) {
      due("letter", x.letter(n % 5), n + 1);
    }
    long before = x.digest();
    due("letter(4)", x.letter(4), NO);
    for (int bad : new int[] {LOW, -1, 5, HIGH}) {
      due("letter(" + bad + ")", x.letter(bad), BAD);
    }
    due("digest()", x.digest(), before);
    promise = 14;
    due("empty()", x.empty(), 14);
    due("empty()", x.empty(), 0);
    due("letter(-1)", x.letter(-1), BAD);
    due("letter(3)", x.letter(3), 1);
    due("empty()", x.empty(), 1);
  }

  private static void fused() {
    promise = 15;
    FuseBench x = new FuseBench();
    x.near(0, 2, 1);
    due("fused(0, 0)", x.fused(0, 0), 1);
    due("fused(0, 2)", x.fused(0, 2), 0);
    x.letter(2);
    x.letter(1);
    x.letter(2);
    x.letter(2);
    // 2 1 is 2; 2 2 is 0 + 1 + 2; that by 2 is 2 + 2 + 0 + 1 + 2.
    due("fused(0, 0)", x.fused(0, 0), 1);
    due("fused(0, 1)", x.fused(0, 1), 1);
    due("fused(0, 2)", x.fused(0, 2), 3);
    due("fused(0, 3)", x.fused(0, 3), BAD);
    due("fused(0, -1)", x.fused(0, -1), BAD);
    due("fused(6, 0)", x.fused(6, 0), BAD);
    due("fused(-1, 0)", x.fused(-1, 0), BAD);
    due("fused(1, 0), no kind 2", x.fused(1, 0), BAD);
    x.empty();
    // From the left: N(1, 2, ..) is taken, not N(2, 1, ..).
    x.rank(1, 3);
    x.put(1, 1, 2, 0, 4);
    x.put(1, 2, 1, 0, 7);
    x.letter(1);
    x.letter(2);
    due("fused(1, 0)", x.fused(1, 0), 4);
    x.empty();
    x.rank(2, 5);
    for (int i = 0; i < 5; i++) {
      for (int k = 0; k < 5; k++) {
        x.put(2, i, 0, k, 9);
      }
    }
    long all = 9;
    for (int n = 0; n < 14; n++) {
      x.letter(0);
      due("fused(2, 4)", x.fused(2, 4), all);
      all *= 45;
    }
  }

  private static void ways() {
    promise = 16;
    FuseBench x = new FuseBench();
    x.near(0, 1, 1);
    due("ways(0, 1, 1, 0, 1)", x.ways(0, 1, 1, 0, 1), 1);
    due("ways(0, 1, 1, 0, 0)", x.ways(0, 1, 1, 0, 0), 0);
    due("ways(0, 1, 1, 12, 1)", x.ways(0, 1, 1, 12, 1), 233);
    due("ways(0, 1, 0, 5, 1)", x.ways(0, 1, 0, 5, 1), 1);
    x.rank(1, 3);
    x.put(1, 1, 2, 0, 4);
    x.put(1, 2, 1, 0, 7);
    due("ways(1, 1, 2, 1, 0)", x.ways(1, 1, 2, 1, 0), 4);
    due("ways(1, 2, 1, 1, 0)", x.ways(1, 2, 1, 1, 0), 7);
    for (int bad : new int[] {LOW, -1, 2, HIGH}) {
      due("ways i " + bad, x.ways(0, bad, 1, 1, 1), BAD);
      due("ways x " + bad, x.ways(0, 1, bad, 1, 1), BAD);
      due("ways j " + bad, x.ways(0, 1, 1, 1, bad), BAD);
    }
    for (int bad : new int[] {LOW, -1, 13, HIGH}) {
      due("ways n " + bad, x.ways(0, 1, 1, bad, 1), BAD);
    }
    due("ways(6, 0, 0, 1, 0)", x.ways(6, 0, 0, 1, 0), BAD);
    due("ways(-1, 0, 0, 1, 0)", x.ways(-1, 0, 0, 1, 0), BAD);
  }

  private static void closedAndLeast() {
    FuseBench x = new FuseBench();
    x.group(0, 4);
    promise = 17;
    for (int set = 1; set < 16; set++) {
      due("closed(0, " + set + ")", x.closed(0, set), set == 1 || set == 5 || set == 15 ? 1 : 0);
    }
    promise = 18;
    due("least(0, 0)", x.least(0, 0), 1);
    due("least(0, 4)", x.least(0, 4), 5);
    due("least(0, 8)", x.least(0, 8), 15);
    due("least(0, 15)", x.least(0, 15), 15);
    x.group(1, 5);
    due("least(1, 2)", x.least(1, 2), 31);
    FuseBench y = broken();
    for (int bad : new int[] {LOW, -1, 16, HIGH}) {
      promise = 17;
      due("closed(0, " + bad + ")", x.closed(0, bad), BAD);
      due("closed(0, " + bad + ") of none right", y.closed(0, bad), BAD);
      promise = 18;
      due("least(0, " + bad + ")", x.least(0, bad), BAD);
      due("least(0, " + bad + ") of none right", y.least(0, bad), BAD);
    }
    for (int bad : new int[] {LOW, -1, 6, HIGH}) {
      promise = 17;
      due("closed(" + bad + ", 1)", x.closed(bad, 1), BAD);
      promise = 18;
      due("least(" + bad + ", 1)", x.least(bad, 1), BAD);
    }
    promise = 17;
    due("closed(0, 0)", x.closed(0, 0), BAD);
    due("closed(0, 0) of none right", y.closed(0, 0), BAD);
    due("closed(0, 1) of none right", y.closed(0, 1), NO);
    promise = 18;
    due("least(0, 0) of none right", y.least(0, 0), NO);
  }

  private static void coreGradeWithin() {
    FuseBench x = new FuseBench();
    x.near(0, 4, 0);
    x.group(1, 5);
    x.near(2, 2, 1);
    promise = 19;
    due("core(0)", x.core(0), 15);
    due("core(1)", x.core(1), 1);
    due("core(2)", x.core(2), 7);
    promise = 20;
    due("grade(0, 3)", x.grade(0, 3), 0);
    due("grade(0, 4)", x.grade(0, 4), 4);
    due("grade(1, 3)", x.grade(1, 3), 3);
    due("grade(2, 2)", x.grade(2, 2), 0);
    promise = 21;
    due("within(0)", x.within(0), 4);
    due("within(1)", x.within(1), 2);
    due("within(2)", x.within(2), 3);
    due("within(3)", x.within(3), 1);
    for (int bad : new int[] {LOW, -1, 6, HIGH}) {
      promise = 19;
      due("core(" + bad + ")", x.core(bad), BAD);
      promise = 20;
      due("grade(" + bad + ", 0)", x.grade(bad, 0), BAD);
      due("grade(1, " + bad + ")", x.grade(1, bad), BAD);
      promise = 21;
      due("within(" + bad + ")", x.within(bad), BAD);
    }
    FuseBench y = broken();
    promise = 19;
    due("core(0) of none right", y.core(0), NO);
    promise = 20;
    due("grade(0, 2) of none right", y.grade(0, 2), NO);
    due("grade(0, 3) of none right", y.grade(0, 3), BAD);
    promise = 21;
    due("within(0) of none right", y.within(0), NO);
  }

  private static void like() {
    promise = 22;
    FuseBench x = new FuseBench();
    due("like(0, 5)", x.like(0, 5), 1);
    x.rank(0, 5);
    x.rank(1, 5);
    due("like(0, 1)", x.like(0, 1), 24);
    x.put(1, 4, 3, 2, 1);
    due("like(0, 1)", x.like(0, 1), 0);
    x.put(0, 1, 2, 3, 1);
    due("like(0, 1)", x.like(0, 1), 1);
    x.put(1, 4, 3, 2, 2);
    due("like(0, 1)", x.like(0, 1), 0);
    due("like(0, 2), unlike ranks", x.like(0, 2), 0);
    x.rank(3, 2);
    x.put(3, 1, 1, 0, 1);
    x.rank(4, 2);
    x.put(4, 0, 0, 1, 1);
    due("like(3, 4), 0 to 0", x.like(3, 4), 0);
    for (int bad : new int[] {LOW, -1, 6, HIGH}) {
      due("like(" + bad + ", 0)", x.like(bad, 0), BAD);
      due("like(0, " + bad + ")", x.like(0, bad), BAD);
    }
  }

  private static void mapsAndMap() {
    FuseBench x = new FuseBench();
    FuseBench y = broken();
    x.group(1, 4);
    for (int q : PRIMES) {
      promise = 23;
      due("maps(0, " + q + ")", x.maps(0, q), 1);
      due("maps(0, " + q + ") of none right", y.maps(0, q), NO);
      promise = 24;
      due("map(0, " + q + ", 0, 0)", x.map(0, q, 0, 0), 1);
      due("map(0, " + q + ", 1, 0)", x.map(0, q, 1, 0), NONE);
      due("map(0, " + q + ", 9, 0) of none right", y.map(0, q, 9, 0), NO);
    }
    promise = 23;
    due("maps(1, 13)", x.maps(1, 13), 4);
    due("maps(1, 11)", x.maps(1, 11), 2);
    due("maps(1, 2)", x.maps(1, 2), 1);
    promise = 24;
    // Fourth roots of 1 by 13, in order: 1, 5, 8, 12; u(2) is their square.
    int[] roots = {1, 5, 8, 12};
    for (int k = 0; k < 4; k++) {
      due("map(1, 13, " + k + ", 1)", x.map(1, 13, k, 1), roots[k]);
      due("map(1, 13, " + k + ", 2)", x.map(1, 13, k, 2), roots[k] * roots[k] % 13);
      due("map(1, 13, " + k + ", 0)", x.map(1, 13, k, 0), 1);
    }
    due("map(1, 13, HIGH, 1)", x.map(1, 13, HIGH, 1), NONE);
    due("map(1, 13, -1, 1)", x.map(1, 13, -1, 1), BAD);
    due("map(1, 13, LOW, 1)", x.map(1, 13, LOW, 1), BAD);
    due("map(0, 13, -1, 0) of none right", y.map(0, 13, -1, 0), BAD);
    due("map(0, 13, 0, 3) of none right", y.map(0, 13, 0, 3), BAD);
    for (int bad : new int[] {LOW, -1, 6, HIGH}) {
      promise = 23;
      due("maps(" + bad + ", 2)", x.maps(bad, 2), BAD);
      promise = 24;
      due("map(" + bad + ", 2, 0, 0)", x.map(bad, 2, 0, 0), BAD);
      due("map(1, 2, 0, " + bad + ")", x.map(1, 2, 0, bad), BAD);
    }
    for (int bad : new int[] {LOW, -3, 0, 1, 4, 6, 9, 12, 14, 17, HIGH}) {
      promise = 23;
      due("maps(1, " + bad + ")", x.maps(1, bad), BAD);
      promise = 24;
      due("map(1, " + bad + ", 0, 0)", x.map(1, bad, 0, 0), BAD);
    }
  }

  private static void size() {
    promise = 25;
    FuseBench x = new FuseBench();
    for (int n = 1; n <= 5; n++) {
      x.group(0, n);
      due("size of the group of " + n, x.size(0), 10 * n);
    }
    // d = (a + root(a a + 4 n)) / 2, and THE SIZE is n + d.
    for (int n = 1; n <= 4; n++) {
      for (int a = 0; a <= 9; a++) {
        x.near(0, n, a);
        int tenths = 0;
        while (isAtLeast(tenths + 1, n, a)) {
          tenths++;
        }
        due("size of near " + n + ", " + a, x.size(0), tenths);
      }
    }
    for (int bad : new int[] {LOW, -1, 6, HIGH}) {
      due("size(" + bad + ")", x.size(bad), BAD);
    }
    due("size(0) of none right", broken().size(0), NO);
  }

  /** Whether n + d is m tenths or more, in whole numbers. */
  private static boolean isAtLeast(int m, int n, int a) {
    int left = m - 10 * n - 5 * a;
    return left <= 0 || left * left <= 25 * (a * a + 4 * n);
  }

  private static void digest() {
    promise = 26;
    FuseBench x = new FuseBench();
    x.near(1, 1, 5);
    x.letter(4);
    x.letter(0);
    x.letter(2);
    int[] pair = {2, 1, 0, 0, 1, 0, 1, 1, 5};
    int[][] all = {single(), pair, single(), single(), single(), single()};
    due("digest()", x.digest(), digestOf(all, 4, 0, 2));
    x.empty();
    due("digest()", x.digest(), digestOf(all));
  }

  private static void asksChangeNothing() {
    promise = 26;
    FuseBench x = new FuseBench();
    x.near(0, 3, 2);
    x.letter(1);
    long before = x.digest();
    x.at(0, 1, 1, 1);
    x.fault(0, 0);
    x.partner(0, 1);
    x.list(4, 1, 1);
    x.fused(0, 1);
    x.ways(0, 1, 1, 3, 1);
    x.closed(0, 1);
    x.least(0, 2);
    x.core(0);
    x.grade(0, 1);
    x.within(0);
    x.like(0, 1);
    x.maps(0, 13);
    x.map(0, 13, 0, 1);
    x.size(0);
    due("digest()", x.digest(), before);
  }

  public static void main(String[] args) {
    newObject();
    rank();
    putAndAt();
    fault();
    partner();
    copy();
    group();
    near();
    together();
    listAndTake();
    letterAndEmpty();
    fused();
    ways();
    closedAndLeast();
    coreGradeWithin();
    like();
    mapsAndMap();
    size();
    digest();
    asksChangeNothing();
    System.out.println(wrong == 0 ? "all promises hold" : wrong + " answers are not as due");
    if (wrong != 0) {
      System.exit(1);
    }
  }
}
