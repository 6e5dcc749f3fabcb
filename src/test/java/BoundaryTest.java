import java.math.BigInteger;
import java.util.function.Consumer;
import java.util.function.ToLongFunction;

/**
 * The boundary cases that the document names, promise by promise. Each case has new objects of its
 * own, and is told by its own name if it is answered otherwise. A refused call is held against a
 * twin that was never asked: all that can be asked afterwards must be answered alike.
 */
public final class BoundaryTest {
  private static final int LOW = Integer.MIN_VALUE, HIGH = Integer.MAX_VALUE;
  private static final int NONE = FuseBench.NONE, BAD = FuseBench.BAD, NO = FuseBench.NO;
  private static final int[] NO_TABLES = {LOW, -1, 6, HIGH};
  private static final int[] PRIMES = {2, 3, 5, 7, 11, 13};
  private static final int[] NO_PRIMES = {LOW, -13, -2, -1, 0, 1, 4, 6, 8, 9, 10, 12, 14, 15, 17, HIGH};
  private static final int PROMISES = 26;

  private static final int[] casesOf = new int[PROMISES + 1];
  private static int promise = 0;
  private static int wrong = 0;

  /** A call with one of its numbers left open. */
  private interface OpenCall {
    long ask(FuseBench x, int number);
  }

  // ---- how a case is held

  private static void hold(String edge, long got, long want) {
    casesOf[promise]++;
    if (got != want) {
      wrong++;
      System.out.println("promise " + promise + ", " + edge + ": gave " + got + ", due is " + want);
    }
  }

  /** One case: what a new object answers last. */
  private static void due(String edge, ToLongFunction<FuseBench> run, long want) {
    hold(edge, run.applyAsLong(new FuseBench()), want);
  }

  /** One case: the call is refused as told, and nothing is changed by it. */
  private static void refused(
      String edge, Consumer<FuseBench> before, ToLongFunction<FuseBench> call, int want) {
    FuseBench asked = new FuseBench();
    FuseBench twin = new FuseBench();
    before.accept(asked);
    before.accept(twin);
    hold(edge, call.applyAsLong(asked), want);
    String left = allThatIsTold(asked);
    String due = allThatIsTold(twin);
    if (!left.equals(due)) {
      wrong++;
      System.out.println("promise " + promise + ", " + edge + ": was refused but changed\n  " + due
          + "\n  into\n  " + left);
    }
  }

  private static void bad(String edge, Consumer<FuseBench> before, OpenCall call, int... numbers) {
    for (int number : numbers) {
      refused(edge + " " + number, before, x -> call.ask(x, number), BAD);
    }
  }

  private static void taken(
      String edge, Consumer<FuseBench> before, OpenCall call, long want, int... numbers) {
    for (int number : numbers) {
      due(edge + " " + number, x -> {
        before.accept(x);
        return call.ask(x, number);
      }, want);
    }
  }

  /** One case for each LAW that a table 0 of RANK 3 breaks: NO, with nothing changed. */
  private static void noIfNotRight(String edge, ToLongFunction<FuseBench> call) {
    for (int law = 1; law <= 5; law++) {
      int broken = law;
      refused(edge + ", LAW " + law + " broken", x -> breakLaw(x, broken), call, NO);
    }
  }

  /** One case for each LAW that a table 0 of RANK 3 breaks: answered as for any table. */
  private static void takenIfNotRight(String edge, ToLongFunction<FuseBench> call, long... wants) {
    for (int law = 1; law <= 5; law++) {
      int broken = law;
      due(edge + ", LAW " + law + " broken", x -> {
        breakLaw(x, broken);
        return call.applyAsLong(x);
      }, wants.length == 1 ? wants[0] : wants[law - 1]);
    }
  }

  private static int rankOf(FuseBench x, int t) {
    int r = 1;
    while (r < 6 && x.at(t, r, 0, 0) != BAD) {
      r++;
    }
    return r;
  }

  private static String numbersOf(FuseBench x, int t) {
    StringBuilder told = new StringBuilder();
    int r = rankOf(x, t);
    for (int i = 0; i < r; i++) {
      for (int j = 0; j < r; j++) {
        for (int k = 0; k < r; k++) {
          told.append(x.at(t, i, j, k));
        }
      }
    }
    return told.toString();
  }

  private static String allThatIsTold(FuseBench x) {
    StringBuilder told = new StringBuilder();
    told.append("digest ").append(x.digest());
    for (int t = 0; t < 6; t++) {
      told.append("; ").append(t).append(": ").append(numbersOf(x, t));
      told.append(" FAULT ").append(x.fault(t, 0));
      told.append(" fused ").append(x.fused(t, 0));
    }
    told.append("; emptied ").append(x.empty());
    told.append("; next letter ").append(x.letter(4));
    return told.toString();
  }

  // ---- what a case begins with

  private static void nothing(FuseBench x) {
  }

  /** Tables at both ends and in between, and a WORD. */
  private static void busy(FuseBench x) {
    x.near(0, 2, 4);
    x.group(1, 5);
    x.rank(3, 4);
    x.put(3, 3, 2, 1, 9);
    x.near(5, 1, 7);
    x.letter(2);
    x.letter(0);
  }

  private static void fillWord(FuseBench x) {
    for (int n = 0; n < 14; n++) {
      x.letter(n % 5);
    }
  }

  private static void breakLaw(FuseBench x, int law) {
    if (law == 3 || law == 5) {
      x.rank(0, 3);
    } else {
      x.group(0, 3);
    }
    if (law == 1) {
      x.put(0, 0, 1, 2, 1);
    } else if (law == 2) {
      x.put(0, 2, 1, 1, 1);
    } else if (law == 4) {
      x.put(0, 2, 2, 2, 1);
    } else if (law == 5) {
      x.put(0, 1, 1, 0, 1);
      x.put(0, 2, 2, 0, 1);
    }
  }

  /** Table 0 is THE NEAR GROUP of n and a, but with the one KIND more, x, as KIND 1. */
  private static void nearTurned(FuseBench x, int n, int a) {
    x.near(1, n, a);
    x.rank(0, n + 1);
    for (int i = 0; i <= n; i++) {
      for (int j = 0; j <= n; j++) {
        for (int k = 0; k <= n; k++) {
          x.put(0, swapped(i, n), swapped(j, n), swapped(k, n), x.at(1, i, j, k));
        }
      }
    }
  }

  private static int swapped(int kind, int n) {
    return kind == 1 ? n : kind == n ? 1 : kind;
  }

  private static void nearOfTwoTurned(FuseBench x) {
    nearTurned(x, 2, 0);
  }

  /** By 13 the KIND 1 of this table has the remainders 4 and 12 with 1 for all others, and 0. */
  private static void lateMap(FuseBench x) {
    nearTurned(x, 4, 3);
  }

  /** All numbers N(i, 0, k) of table 0, of RANK 5, are 9: each KIND 0 more makes 45 of each 1. */
  private static void fillForWrap(FuseBench x) {
    x.rank(0, 5);
    for (int i = 0; i < 5; i++) {
      for (int k = 0; k < 5; k++) {
        x.put(0, i, 0, k, 9);
      }
    }
  }

  /** 9 times 45 to the power, as a long holds it. */
  private static long wrapped(int power) {
    return BigInteger.valueOf(45).pow(power).multiply(BigInteger.valueOf(9)).longValue();
  }

  // ---- the promises

  private static void newObject() {
    promise = 1;
    for (int t = 0; t < 6; t++) {
      int table = t;
      due("table " + t + " has RANK 1", x -> rankOf(x, table), 1);
      due("table " + t + " has N(0, 0, 0) 1", x -> x.at(table, 0, 0, 0), 1);
    }
    due("no table before the first", x -> x.at(-1, 0, 0, 0), BAD);
    due("no table after the last", x -> x.at(6, 0, 0, 0), BAD);
    due("the WORD is empty", FuseBench::empty, 0);
    due("NONE", x -> FuseBench.NONE, -1);
    due("BAD", x -> FuseBench.BAD, -2);
    due("NO", x -> FuseBench.NO, -3);
    FuseBench first = new FuseBench();
    busy(first);
    due("a second object has none of the first's", FuseBench::digest, digestOf("1111111111110"));
  }

  private static void rank() {
    promise = 2;
    OpenCall ofTable = (x, t) -> x.rank(t, 2);
    OpenCall ofRank = (x, r) -> x.rank(0, r);
    taken("table", BoundaryTest::busy, ofTable, 1, 0, 5);
    bad("table", BoundaryTest::busy, ofTable, NO_TABLES);
    taken("RANK", BoundaryTest::busy, ofRank, 1, 1, 5);
    bad("RANK", BoundaryTest::busy, ofRank, LOW, -1, 0, 6, HIGH);
    bad("the last table, RANK", BoundaryTest::busy, (x, r) -> x.rank(5, r), 0, 6);
    for (int r = 1; r <= 5; r++) {
      int kinds = r;
      due("RANK " + r + " is what is left", x -> {
        x.rank(4, kinds);
        return rankOf(x, 4);
      }, r);
      due("RANK " + r + " as at first: numbers", x -> x.rank(4, kinds) == 1
          && numbersOf(x, 4).equals(unitNumbers(kinds)) ? 1 : 0, 1);
      due("the same RANK " + r + " again: numbers", x -> {
        x.rank(4, kinds);
        x.put(4, kinds - 1, kinds - 1, kinds - 1, 9);
        x.put(4, 0, 0, 0, 0);
        x.rank(4, kinds);
        return numbersOf(x, 4).equals(unitNumbers(kinds)) ? 1 : 0;
      }, 1);
    }
    due("down and up again: nothing comes back", x -> {
      x.group(4, 5);
      x.put(4, 4, 4, 4, 9);
      x.rank(4, 1);
      x.rank(4, 5);
      return numbersOf(x, 4).equals(unitNumbers(5)) ? 1 : 0;
    }, 1);
    due("the table before stays", x -> x.rank(4, 5) == 1 ? rankOf(x, 3) : 0, 1);
    due("the table after stays", x -> x.rank(4, 5) == 1 ? rankOf(x, 5) : 0, 1);
    due("the WORD stays", x -> x.letter(4) == 1 && x.rank(0, 1) == 1 ? x.empty() : -9, 1);
  }

  private static String unitNumbers(int r) {
    StringBuilder told = new StringBuilder();
    for (int i = 0; i < r; i++) {
      for (int j = 0; j < r; j++) {
        for (int k = 0; k < r; k++) {
          told.append(i == 0 && j == k || j == 0 && i == k ? 1 : 0);
        }
      }
    }
    return told.toString();
  }

  private static void put() {
    promise = 3;
    OpenCall ofTable = (x, t) -> x.put(t, 0, 0, 0, 3);
    taken("table", BoundaryTest::nothing, ofTable, 1, 0, 5);
    bad("table", BoundaryTest::busy, ofTable, NO_TABLES);
    OpenCall ofNumber = (x, v) -> x.put(1, 4, 4, 3, v);
    taken("number", BoundaryTest::busy, ofNumber, 1, 0, 9);
    bad("number", BoundaryTest::busy, ofNumber, LOW, -1, 10, HIGH);
    for (int v : new int[] {0, 9}) {
      due("number " + v + " is kept", x -> {
        busy(x);
        x.put(1, 4, 4, 3, v);
        return x.at(1, 4, 4, 3);
      }, v);
    }
    due("what it was is 9", x -> {
      x.put(0, 0, 0, 0, 9);
      return x.put(0, 0, 0, 0, 0);
    }, 9);
    due("what it was is 0", x -> {
      x.put(0, 0, 0, 0, 0);
      return x.put(0, 0, 0, 0, 9);
    }, 0);
    for (int r = 1; r <= 5; r++) {
      int last = r - 1;
      Consumer<FuseBench> ofRank = x -> x.rank(2, last + 1);
      due("last KINDS of RANK " + r, x -> {
        ofRank.accept(x);
        x.put(2, last, last, last, 7);
        return x.at(2, last, last, last);
      }, 7);
      int[] noKinds = {LOW, -1, r, HIGH};
      bad("RANK " + r + ", i", ofRank, (x, i) -> x.put(2, i, 0, 0, 7), noKinds);
      bad("RANK " + r + ", j", ofRank, (x, j) -> x.put(2, 0, j, 0, 7), noKinds);
      bad("RANK " + r + ", k", ofRank, (x, k) -> x.put(2, 0, 0, k, 7), noKinds);
    }
  }

  private static void at() {
    promise = 4;
    OpenCall ofTable = (x, t) -> x.at(t, 0, 0, 0);
    taken("table", BoundaryTest::nothing, ofTable, 1, 0, 5);
    bad("table", BoundaryTest::busy, ofTable, NO_TABLES);
    for (int r = 1; r <= 5; r++) {
      int last = r - 1;
      Consumer<FuseBench> ofRank = x -> x.rank(2, last + 1);
      taken("RANK " + r + ", last i", ofRank, (x, i) -> x.at(2, i, 0, i), 1, last);
      taken("RANK " + r + ", last j", ofRank, (x, j) -> x.at(2, 0, j, j), 1, last);
      int[] noKinds = {LOW, -1, r, HIGH};
      bad("RANK " + r + ", i", ofRank, (x, i) -> x.at(2, i, 0, 0), noKinds);
      bad("RANK " + r + ", j", ofRank, (x, j) -> x.at(2, 0, j, 0), noKinds);
      bad("RANK " + r + ", k", ofRank, (x, k) -> x.at(2, 0, 0, k), noKinds);
    }
    due("a KIND that the RANK had before", x -> {
      x.group(2, 5);
      x.rank(2, 4);
      return x.at(2, 4, 0, 4);
    }, BAD);
  }

  private static void faultAt(String edge, Consumer<FuseBench> before, int... parts) {
    for (int what = 0; what <= 4; what++) {
      taken(edge + ", what", before, (x, part) -> x.fault(0, part), parts[what], what);
    }
  }

  private static Consumer<FuseBench> groupWith(int n, int... puts) {
    return x -> {
      x.group(0, n);
      for (int at = 0; at < puts.length; at += 4) {
        x.put(0, puts[at], puts[at + 1], puts[at + 2], puts[at + 3]);
      }
    };
  }

  private static void fault() {
    promise = 5;
    OpenCall ofTable = (x, t) -> x.fault(t, 0);
    taken("table", BoundaryTest::nothing, ofTable, 0, 0, 5);
    bad("table", BoundaryTest::busy, ofTable, NO_TABLES);
    OpenCall ofPart = (x, what) -> x.fault(0, what);
    bad("RIGHT, what", BoundaryTest::busy, ofPart, LOW, -1, 5, HIGH);
    bad("not RIGHT, what", x -> breakLaw(x, 5), ofPart, LOW, -1, 5, HIGH);
    faultAt("RIGHT of RANK 1", BoundaryTest::nothing, 0, NONE, NONE, NONE, NONE);
    faultAt("RIGHT of RANK 5", groupWith(5), 0, NONE, NONE, NONE, NONE);
    faultAt("the unit, 0 in its only place", groupWith(1, 0, 0, 0, 0), 1, 0, 0, NONE, NONE);
    faultAt("the unit, 2 in its only place", groupWith(1, 0, 0, 0, 2), 1, 0, 0, NONE, NONE);
    faultAt("the unit, 9 in its only place", groupWith(1, 0, 0, 0, 9), 1, 0, 0, NONE, NONE);
    faultAt("the unit from the left, last place", groupWith(5, 0, 4, 4, 2), 1, 4, 4, NONE, NONE);
    faultAt("the unit from the right, last place", groupWith(5, 4, 0, 4, 0), 1, 4, 4, NONE, NONE);
    faultAt("the unit from the left, unlike", groupWith(5, 0, 3, 4, 1), 1, 3, 4, NONE, NONE);
    faultAt("the unit from the right, unlike", groupWith(5, 3, 0, 4, 1), 1, 3, 4, NONE, NONE);
    faultAt("the unit twice: the first place", groupWith(5, 4, 0, 4, 0, 0, 1, 4, 1), 1, 1, 4, NONE, NONE);
    faultAt("either way, last place", groupWith(5, 4, 3, 4, 1), 2, 3, 4, 4, NONE);
    faultAt("either way, first place", groupWith(5, 1, 2, 0, 1), 2, 1, 2, 0, NONE);
    faultAt("either way by one", groupWith(5, 1, 2, 4, 9, 2, 1, 4, 8), 2, 1, 2, 4, NONE);
    faultAt("no PARTNER", groupWith(2, 1, 1, 0, 0), 3, 1, NONE, NONE, NONE);
    faultAt("a PARTNER 2 times", groupWith(2, 1, 1, 0, 2), 3, 1, NONE, NONE, NONE);
    faultAt("a PARTNER 9 times", groupWith(2, 1, 1, 0, 9), 3, 1, NONE, NONE, NONE);
    faultAt("two PARTNERS, of the last KIND", groupWith(3, 2, 2, 0, 1), 3, 2, NONE, NONE, NONE);
    faultAt("no PARTNER of the last KIND alone",
        groupWith(4, 2, 2, 0, 1, 1, 3, 0, 0, 3, 1, 0, 0, 1, 1, 0, 1), 3, 3, NONE, NONE, NONE);
    faultAt("turned, last places", groupWith(3, 2, 2, 2, 1), 4, 1, 2, 2, NONE);
    faultAt("turned, own PARTNERS", groupWith(4, 2, 2, 0, 1, 2, 2, 2, 5, 1, 1, 3, 1), 4, 1, 1, 3, NONE);
    faultAt("three", x -> breakLaw(x, 5), 5, 1, 1, 2, 2);
    faultAt("three, the last KIND", x -> {
      x.near(0, 4, 0);
      x.put(0, 4, 4, 4, 1);
      x.put(0, 3, 4, 4, 2);
      x.put(0, 4, 3, 4, 2);
      x.put(0, 1, 4, 4, 2);
      x.put(0, 4, 1, 4, 2);
      x.put(0, 4, 4, 1, 2);
      x.put(0, 4, 4, 3, 2);
    }, 5, 1, 1, 4, 4);
    faultAt("LAW 1 ahead of 2", groupWith(5, 1, 2, 0, 1, 0, 4, 4, 0), 1, 4, 4, NONE, NONE);
    faultAt("LAW 2 ahead of 3", groupWith(5, 1, 4, 0, 2, 4, 1, 0, 2, 4, 3, 4, 1), 2, 3, 4, 4, NONE);
    faultAt("LAW 3 ahead of 4", groupWith(5, 1, 1, 1, 1, 4, 4, 0, 1), 3, 4, NONE, NONE, NONE);
    faultAt("LAW 4 ahead of 5", groupWith(3, 1, 1, 2, 2, 2, 2, 2, 1), 4, 1, 1, 2, NONE);
  }

  private static void partner() {
    promise = 6;
    OpenCall ofTable = (x, t) -> x.partner(t, 0);
    taken("table", BoundaryTest::nothing, ofTable, 0, 0, 5);
    bad("table", BoundaryTest::busy, ofTable, NO_TABLES);
    taken("the only KIND", BoundaryTest::nothing, (x, i) -> x.partner(2, i), 0, 0);
    bad("RANK 1, KIND", BoundaryTest::nothing, (x, i) -> x.partner(2, i), LOW, -1, 1, HIGH);
    OpenCall ofKind = (x, i) -> x.partner(1, i);
    taken("the first KIND", BoundaryTest::busy, ofKind, 0, 0);
    taken("the last KIND", BoundaryTest::busy, ofKind, 1, 4);
    taken("the last KIND's", BoundaryTest::busy, ofKind, 4, 1);
    bad("RANK 5, KIND", BoundaryTest::busy, ofKind, LOW, -1, 5, HIGH);
    noIfNotRight("the first KIND", x -> x.partner(0, 0));
    noIfNotRight("the last KIND", x -> x.partner(0, 2));
    bad("BAD ahead of NO, KIND", x -> breakLaw(x, 5), (x, i) -> x.partner(0, i), -1, 3);
    due("RIGHT again by one put", x -> {
      breakLaw(x, 1);
      x.put(0, 0, 1, 2, 0);
      return x.partner(0, 2);
    }, 1);
  }

  private static void copy() {
    promise = 7;
    taken("from", BoundaryTest::nothing, (x, t) -> x.copy(t, 2), 1, 0, 5);
    taken("to", BoundaryTest::nothing, (x, t) -> x.copy(2, t), 1, 0, 5);
    bad("from", BoundaryTest::busy, (x, t) -> x.copy(t, 2), NO_TABLES);
    bad("to", BoundaryTest::busy, (x, t) -> x.copy(1, t), NO_TABLES);
    bad("both", BoundaryTest::busy, (x, t) -> x.copy(t, t), NO_TABLES);
    for (int r = 1; r <= 5; r++) {
      int kinds = r;
      due("RANK " + r, x -> x.group(0, kinds) == 1 ? x.copy(0, 5) : 0, r);
    }
    due("a small one over a great one", x -> {
      busy(x);
      x.copy(5, 1);
      return numbersOf(x, 1).equals("10010117") ? 1 : 0;
    }, 1);
    due("a great one over a small one", x -> {
      busy(x);
      x.copy(1, 5);
      return numbersOf(x, 5).equals(numbersOf(x, 1)) && rankOf(x, 5) == 5 ? 1 : 0;
    }, 1);
    due("onto itself: RANK", x -> {
      busy(x);
      return x.copy(3, 3);
    }, 4);
    due("onto itself changes nothing", x -> {
      busy(x);
      long before = x.digest();
      x.copy(3, 3);
      return x.digest() == before ? 1 : 0;
    }, 1);
    due("the first changes later, the other one doesn't", x -> {
      x.copy(0, 1);
      x.put(0, 0, 0, 0, 8);
      return x.at(1, 0, 0, 0);
    }, 1);
    due("the other one changes later, the first doesn't", x -> {
      x.copy(0, 1);
      x.put(1, 0, 0, 0, 8);
      return x.at(0, 0, 0, 0);
    }, 1);
    due("a table that is not RIGHT", x -> {
      breakLaw(x, 1);
      x.copy(0, 1);
      return x.at(1, 0, 1, 2);
    }, 1);
  }

  private static void group() {
    promise = 8;
    OpenCall ofTable = (x, t) -> x.group(t, 5);
    taken("table", BoundaryTest::busy, ofTable, 1, 0, 5);
    bad("table", BoundaryTest::busy, ofTable, NO_TABLES);
    OpenCall ofMany = (x, n) -> x.group(0, n);
    taken("n", BoundaryTest::busy, ofMany, 1, 1, 5);
    bad("n", BoundaryTest::busy, ofMany, LOW, -1, 0, 6, HIGH);
    String[] numbers = {"1", "10010110", "100010001010001100001100010"};
    for (int n = 1; n <= 3; n++) {
      int many = n;
      due("all of the GROUP of " + n, x -> {
        x.near(0, 4, 9);
        x.group(0, many);
        return numbersOf(x, 0).equals(numbers[many - 1]) ? 1 : 0;
      }, 1);
    }
    due("i + j is n - 1", x -> x.group(0, 5) == 1 ? x.at(0, 1, 3, 4) : 0, 1);
    due("i + j is n", x -> x.group(0, 5) == 1 ? x.at(0, 1, 4, 0) : 0, 1);
    due("i + j is the greatest", x -> x.group(0, 5) == 1 ? x.at(0, 4, 4, 3) : 0, 1);
    due("RANK is n", x -> x.group(0, 4) == 1 ? rankOf(x, 0) : 0, 4);
  }

  private static void near() {
    promise = 9;
    OpenCall ofTable = (x, t) -> x.near(t, 4, 9);
    taken("table", BoundaryTest::busy, ofTable, 1, 0, 5);
    bad("table", BoundaryTest::busy, ofTable, NO_TABLES);
    OpenCall ofMany = (x, n) -> x.near(0, n, 1);
    taken("n", BoundaryTest::busy, ofMany, 1, 1, 4);
    bad("n", BoundaryTest::busy, ofMany, LOW, -1, 0, 5, HIGH);
    OpenCall ofTimes = (x, a) -> x.near(0, 4, a);
    taken("a", BoundaryTest::busy, ofTimes, 1, 0, 9);
    bad("a", BoundaryTest::busy, ofTimes, LOW, -1, 10, HIGH);
    due("n 1, a 0", x -> x.near(0, 1, 0) == 1 && numbersOf(x, 0).equals("10010110") ? 1 : 0, 1);
    due("n 1, a 9", x -> x.near(0, 1, 9) == 1 && numbersOf(x, 0).equals("10010119") ? 1 : 0, 1);
    due("n 2, a 9 over a greater one", x -> {
      x.group(0, 5);
      x.near(0, 2, 9);
      return numbersOf(x, 0).equals("100010001010100001001001119") ? 1 : 0;
    }, 1);
    due("n 4: RANK", x -> x.near(0, 4, 9) == 1 ? rankOf(x, 0) : 0, 5);
    due("n 4: x with x has a times x", x -> x.near(0, 4, 9) == 1 ? x.at(0, 4, 4, 4) : 0, 9);
    due("n 4: x with x has the last of the GROUP", x -> x.near(0, 4, 9) == 1 ? x.at(0, 4, 4, 3) : 0, 1);
    due("n 4: x with the last", x -> x.near(0, 4, 9) == 1 ? x.at(0, 4, 3, 4) : 0, 1);
    due("n 4: the last with x", x -> x.near(0, 4, 9) == 1 ? x.at(0, 3, 4, 4) : 0, 1);
    due("n 4: the GROUP wraps", x -> x.near(0, 4, 9) == 1 ? x.at(0, 3, 3, 2) : 0, 1);
    for (int n = 1; n <= 4; n++) {
      for (int a : new int[] {0, 9}) {
        int many = n;
        due("RIGHT, n " + n + ", a " + a, x -> x.near(0, many, a) == 1 ? x.fault(0, 0) : -9, 0);
      }
    }
  }

  private static Consumer<FuseBench> ranks(int first, int second) {
    return x -> {
      busy(x);
      x.group(0, first);
      x.group(2, second);
    };
  }

  private static Consumer<FuseBench> times(int first, int second) {
    return x -> {
      x.near(0, 1, first);
      x.near(1, 1, second);
    };
  }

  private static void together() {
    promise = 10;
    taken("a", BoundaryTest::nothing, (x, t) -> x.together(t, 2, 3), 1, 0, 5);
    taken("b", BoundaryTest::nothing, (x, t) -> x.together(2, t, 3), 1, 0, 5);
    taken("to", BoundaryTest::nothing, (x, t) -> x.together(2, 3, t), 1, 0, 5);
    bad("a", BoundaryTest::busy, (x, t) -> x.together(t, 2, 3), NO_TABLES);
    bad("b", BoundaryTest::busy, (x, t) -> x.together(2, t, 3), NO_TABLES);
    bad("to", BoundaryTest::busy, (x, t) -> x.together(2, 2, t), NO_TABLES);
    for (int r = 1; r <= 5; r++) {
      for (int s = 1; s <= 5; s++) {
        int[] both = {r, s};
        if (r * s <= 5) {
          taken("r s is " + r + " " + s + ", to", ranks(r, s), (x, t) -> x.together(0, 2, t), r * s, 4);
          due("RANK by " + r + " " + s, x -> {
            ranks(both[0], both[1]).accept(x);
            x.together(0, 2, 4);
            return rankOf(x, 4);
          }, r * s);
        } else {
          refused("r s is " + r + " " + s, ranks(r, s), x -> x.together(0, 2, 5), NO);
        }
      }
    }
    bad("BAD ahead of NO, to", ranks(5, 5), (x, t) -> x.together(0, 2, t), NO_TABLES);
    bad("BAD ahead of NO for a number above 9, to", times(5, 2), (x, t) -> x.together(0, 1, t), NO_TABLES);
    taken("3 times 3, to", times(3, 3), (x, t) -> x.together(0, 1, t), 4, 2);
    taken("9 times 1, to", times(9, 1), (x, t) -> x.together(0, 1, t), 4, 2);
    taken("1 times 9, to", times(1, 9), (x, t) -> x.together(0, 1, t), 4, 2);
    taken("9 times 0, to", times(9, 0), (x, t) -> x.together(0, 1, t), 4, 2);
    refused("5 times 2", times(5, 2), x -> x.together(0, 1, 2), NO);
    refused("2 times 5", times(2, 5), x -> x.together(0, 1, 2), NO);
    refused("9 times 9", times(9, 9), x -> x.together(0, 1, 2), NO);
    refused("5 times 2 onto the first", times(5, 2), x -> x.together(0, 1, 0), NO);
    refused("5 times 2 onto the second", times(5, 2), x -> x.together(0, 1, 1), NO);
    refused("r s above 5 onto the first", ranks(3, 2), x -> x.together(0, 2, 0), NO);
    refused("r s above 5 onto the second", ranks(3, 2), x -> x.together(0, 2, 2), NO);
    togetherInRankOne();
    togetherOntoItself();
  }

  private static void togetherInRankOne() {
    for (int[] pair : new int[][] {{3, 3, 9}, {9, 1, 9}, {1, 9, 9}, {0, 9, 0}, {9, 0, 0}}) {
      due("number " + pair[0] + " by " + pair[1], x -> {
        x.put(0, 0, 0, 0, pair[0]);
        x.put(1, 0, 0, 0, pair[1]);
        x.together(0, 1, 2);
        return x.at(2, 0, 0, 0);
      }, pair[2]);
    }
    for (int[] pair : new int[][] {{2, 5}, {5, 2}, {9, 2}, {9, 9}}) {
      refused("number " + pair[0] + " by " + pair[1], x -> {
        x.put(0, 0, 0, 0, pair[0]);
        x.put(1, 0, 0, 0, pair[1]);
      }, x -> x.together(0, 1, 2), NO);
    }
    refused("only the last number above 9", x -> {
      x.rank(0, 5);
      x.put(0, 4, 4, 4, 5);
      x.put(1, 0, 0, 0, 2);
    }, x -> x.together(0, 1, 2), NO);
    takenIfNotRight("not RIGHT", x -> x.together(0, 1, 2), 3);
  }

  private static void togetherOntoItself() {
    String square = "1000010000100001" + "0100110000010011" + "0010000110100101" + "0001001101011111";
    due("onto the first", x -> {
      times(1, 1).accept(x);
      x.together(0, 1, 0);
      return numbersOf(x, 0).equals(square) ? 1 : 0;
    }, 1);
    due("onto the second", x -> {
      times(1, 1).accept(x);
      x.together(0, 1, 1);
      return numbersOf(x, 1).equals(square) ? 1 : 0;
    }, 1);
    due("with itself, onto itself", x -> {
      times(1, 1).accept(x);
      x.together(0, 0, 0);
      return numbersOf(x, 0).equals(square) ? 1 : 0;
    }, 1);
    due("KIND i s + j: the first's KIND 1 is KIND 2", x -> {
      times(2, 3).accept(x);
      x.together(0, 1, 2);
      return 10 * x.at(2, 2, 2, 2) + x.at(2, 1, 1, 1);
    }, 23);
  }

  /** All that are LISTED: RANK, bound, pairs, how many, and the first and the last by their numbers. */
  private static final Object[][] LISTS = {
      {2, 1, 0, 2, "10010110", "10010111"},
      {2, 2, 0, 3, "10010110", "10010112"},
      {2, 3, 0, 4, "10010110", "10010113"},
      {3, 1, 0, 6, "100010001010100001001001110", "100010001010111011001011110"},
      {3, 2, 0, 12, "100010001010100001001001110", "100010001010122021001021111"},
      {3, 3, 0, 20, "100010001010100001001001110", "100010001010133032001032122"},
      {3, 1, 1, 1, "100010001010001100001100010", "100010001010001100001100010"},
      {3, 2, 1, 1, "100010001010001100001100010", "100010001010001100001100010"},
      {3, 3, 1, 1, "100010001010001100001100010", "100010001010001100001100010"},
      {4, 1, 0, 22, "1000010000100001010010000001001000100001100001000001001001001000",
          "1000010000100001010011110111011000100111111001010001011001011010"},
      {4, 1, 1, 4, "1000010000100001010000011000001000101000000101000001001001001000",
          "1000010000100001010001111110001000101110011101000001001001001000"}};

  private static int howManyListed(int r, int m, int p) {
    for (Object[] row : LISTS) {
      if ((int) row[0] == r && (int) row[1] == m && (int) row[2] == p) {
        return (int) row[3];
      }
    }
    return BAD;
  }

  private static void list() {
    promise = 11;
    int[] tried = {LOW, -1, 0, 1, 2, 3, 4, 5, HIGH};
    for (int r : tried) {
      for (int m : tried) {
        for (int p : new int[] {LOW, -1, 0, 1, 2, HIGH}) {
          String edge = "list(" + r + ", " + m + ", " + p + ")";
          int want = howManyListed(r, m, p);
          if (want == BAD) {
            refused(edge, BoundaryTest::busy, x -> x.list(r, m, p), BAD);
          } else {
            due(edge, x -> x.list(r, m, p), want);
          }
        }
      }
    }
    due("a refused one in between", x -> {
      x.list(3, 3, 0);
      x.list(4, 2, 0);
      return x.list(3, 3, 0);
    }, 20);
    due("a smaller bound after a greater one", x -> x.list(3, 3, 0) == 20 ? x.list(3, 1, 0) : 0, 6);
    due("a greater bound after a smaller one", x -> x.list(3, 1, 0) == 6 ? x.list(3, 3, 0) : 0, 20);
    due("a greater RANK after a smaller one", x -> x.list(2, 1, 0) == 2 ? x.list(3, 1, 0) : 0, 6);
    due("a smaller RANK after a greater one", x -> x.list(4, 1, 0) == 22 ? x.list(2, 1, 0) : 0, 2);
    due("a pair after no pair", x -> x.list(4, 1, 0) == 22 ? x.list(4, 1, 1) : 0, 4);
    due("no pair after a pair", x -> x.list(4, 1, 1) == 4 ? x.list(4, 1, 0) : 0, 22);
  }

  private static void take() {
    promise = 12;
    OpenCall ofTable = (x, t) -> x.take(t, 4, 1, 0, 21);
    taken("table", BoundaryTest::busy, ofTable, 1, 0, 5);
    bad("table", BoundaryTest::busy, ofTable, NO_TABLES);
    for (Object[] row : LISTS) {
      takeFrom((int) row[0], (int) row[1], (int) row[2], (int) row[3], (String) row[4], (String) row[5]);
    }
    bad("RANK", BoundaryTest::busy, (x, r) -> x.take(0, r, 1, 0, 0), LOW, -1, 0, 1, 5, HIGH);
    bad("RANK 2, bound", BoundaryTest::busy, (x, m) -> x.take(0, 2, m, 0, 0), LOW, -1, 0, 4, HIGH);
    bad("RANK 3, bound", BoundaryTest::busy, (x, m) -> x.take(0, 3, m, 0, 0), LOW, -1, 0, 4, HIGH);
    bad("RANK 4, bound", BoundaryTest::busy, (x, m) -> x.take(0, 4, m, 0, 0), LOW, -1, 0, 2, 3, HIGH);
    bad("RANK 2, pairs", BoundaryTest::busy, (x, p) -> x.take(0, 2, 1, p, 0), LOW, -1, 1, 2, HIGH);
    bad("RANK 3, pairs", BoundaryTest::busy, (x, p) -> x.take(0, 3, 1, p, 0), LOW, -1, 2, HIGH);
    bad("RANK 4, pairs", BoundaryTest::busy, (x, p) -> x.take(0, 4, 1, p, 0), LOW, -1, 2, HIGH);
    bad("BAD ahead of NO, table", BoundaryTest::busy, (x, t) -> x.take(t, 2, 1, 0, 2), NO_TABLES);
    bad("BAD ahead of NO, pairs", BoundaryTest::busy, (x, p) -> x.take(0, 2, 1, p, 99), 1);
    bad("BAD ahead of NO, bound", BoundaryTest::busy, (x, m) -> x.take(0, 4, m, 0, 99), 2);
    due("a refused one leaves what is LISTED", x -> {
      x.take(0, 3, 3, 0, 20);
      x.take(0, 4, 2, 0, 0);
      x.take(0, 3, 3, 0, 19);
      return x.at(0, 1, 1, 1);
    }, 3);
  }

  private static void takeFrom(int r, int m, int p, int many, String first, String last) {
    String of = "of " + r + ", " + m + ", " + p;
    due("the first " + of, x -> x.take(1, r, m, p, 0), 1);
    due("the last " + of, x -> x.take(1, r, m, p, many - 1), 1);
    due("numbers of the first " + of, x -> {
      busy(x);
      x.take(1, r, m, p, 0);
      return numbersOf(x, 1).equals(first) ? 1 : 0;
    }, 1);
    due("numbers of the last " + of, x -> {
      busy(x);
      x.take(5, r, m, p, many - 1);
      return numbersOf(x, 5).equals(last) ? 1 : 0;
    }, 1);
    refused("one beyond the last " + of, BoundaryTest::busy, x -> x.take(1, r, m, p, many), NO);
    refused("far beyond the last " + of, BoundaryTest::busy, x -> x.take(1, r, m, p, HIGH), NO);
    bad("before the first " + of, BoundaryTest::busy, (x, i) -> x.take(1, r, m, p, i), -1, LOW);
  }

  private static void letter() {
    promise = 13;
    taken("KIND", BoundaryTest::nothing, FuseBench::letter, 1, 0, 4);
    bad("KIND", BoundaryTest::busy, FuseBench::letter, LOW, -1, 5, HIGH);
    bad("BAD ahead of NO, KIND", BoundaryTest::fillWord, FuseBench::letter, LOW, -1, 5, HIGH);
    due("the last that has room", x -> {
      for (int n = 0; n < 13; n++) {
        x.letter(4);
      }
      return x.letter(4);
    }, 14);
    refused("the first that has none", BoundaryTest::fillWord, x -> x.letter(0), NO);
    refused("the first that has none, KIND 4", BoundaryTest::fillWord, x -> x.letter(4), NO);
    due("room again", x -> {
      fillWord(x);
      x.letter(0);
      x.empty();
      return x.letter(0);
    }, 1);
    due("the KINDS are kept in order", x -> {
      x.letter(4);
      x.letter(0);
      return x.digest();
    }, digestOf("111111111111240"));
  }

  private static void empty() {
    promise = 14;
    due("an empty WORD", FuseBench::empty, 0);
    due("a full WORD", x -> {
      fillWord(x);
      return x.empty();
    }, 14);
    due("a full WORD and one refused", x -> {
      fillWord(x);
      x.letter(1);
      return x.empty();
    }, 14);
    due("a WORD of one KIND", x -> x.letter(0) == 1 ? x.empty() : -9, 1);
    due("emptied twice", x -> x.letter(0) == 1 && x.empty() == 1 ? x.empty() : -9, 0);
    due("nothing is left of the WORD", x -> {
      fillWord(x);
      x.empty();
      return x.digest();
    }, digestOf("1111111111110"));
    due("the tables stay", x -> {
      busy(x);
      x.empty();
      return x.at(3, 3, 2, 1);
    }, 9);
  }

  private static void fused() {
    promise = 15;
    OpenCall ofTable = (x, t) -> x.fused(t, 0);
    taken("table", BoundaryTest::nothing, ofTable, 1, 0, 5);
    bad("table", BoundaryTest::busy, ofTable, NO_TABLES);
    OpenCall ofKind = (x, k) -> x.fused(0, k);
    taken("the last KIND", BoundaryTest::busy, ofKind, 1, 2);
    bad("KIND", BoundaryTest::busy, ofKind, LOW, -1, 3, HIGH);
    bad("KIND, empty WORD", BoundaryTest::nothing, ofKind, LOW, -1, 1, HIGH);
    due("empty WORD, KIND 0", x -> x.group(0, 5) == 1 ? x.fused(0, 0) : -9, 1);
    due("empty WORD, the last KIND", x -> x.group(0, 5) == 1 ? x.fused(0, 4) : -9, 0);
    due("empty WORD, no unit", x -> x.put(0, 0, 0, 0, 0) == 1 ? x.fused(0, 0) : -9, 1);
    due("KIND 0 comes ahead of the WORD", x -> {
      x.put(0, 0, 0, 0, 7);
      x.letter(0);
      return x.fused(0, 0);
    }, 7);
    for (int r = 1; r <= 5; r++) {
      int kinds = r;
      due("the last KIND of RANK " + r + " in the WORD", x -> {
        x.rank(2, kinds);
        x.letter(kinds - 1);
        return x.fused(2, kinds - 1);
      }, 1);
      if (r < 5) {
        refused("a KIND too great for RANK " + r + " in the WORD", x -> {
          x.rank(2, kinds);
          x.letter(kinds);
        }, x -> x.fused(2, 0), BAD);
        refused("a KIND too great for RANK " + r + " as the last of a full WORD", x -> {
          x.rank(2, kinds);
          for (int n = 0; n < 13; n++) {
            x.letter(0);
          }
          x.letter(kinds);
        }, x -> x.fused(2, 0), BAD);
      }
    }
    due("a KIND too great, but it is there no more", x -> {
      x.letter(4);
      x.empty();
      return x.fused(0, 0);
    }, 1);
    fusedFull();
    takenIfNotRight("not RIGHT", x -> x.letter(1) == 1 ? x.fused(0, 1) : -9, 1);
  }

  private static void fusedFull() {
    due("a full WORD", x -> {
      fillWord(x);
      x.group(0, 5);
      return x.fused(0, 1);
    }, 1);
    due("from the left", x -> {
      x.rank(0, 3);
      x.put(0, 1, 2, 0, 4);
      x.put(0, 2, 1, 0, 7);
      x.letter(1);
      x.letter(2);
      return x.fused(0, 0);
    }, 4);
    for (int length = 1; length <= 14; length++) {
      int many = length;
      due("9 by 45 to the " + (length - 1) + (length < 12 ? "" : ", wrapped"), x -> {
        fillForWrap(x);
        for (int n = 0; n < many; n++) {
          x.letter(0);
        }
        return x.fused(0, 4);
      }, wrapped(length - 1));
    }
  }

  private static void ways() {
    promise = 16;
    OpenCall ofTable = (x, t) -> x.ways(t, 0, 0, 12, 0);
    taken("table", BoundaryTest::nothing, ofTable, 1, 0, 5);
    bad("table", BoundaryTest::busy, ofTable, NO_TABLES);
    for (int r = 1; r <= 5; r++) {
      int last = r - 1;
      Consumer<FuseBench> ofRank = x -> x.rank(2, last + 1);
      due("last KIND of RANK " + r + " as i and j", x -> {
        ofRank.accept(x);
        return x.ways(2, last, 0, 1, last);
      }, 1);
      due("last KIND of RANK " + r + " as x and j", x -> {
        ofRank.accept(x);
        return x.ways(2, 0, last, 1, last);
      }, 1);
      int[] noKinds = {LOW, -1, r, HIGH};
      bad("RANK " + r + ", i", ofRank, (x, i) -> x.ways(2, i, 0, 1, 0), noKinds);
      bad("RANK " + r + ", x", ofRank, (x, by) -> x.ways(2, 0, by, 1, 0), noKinds);
      bad("RANK " + r + ", x by no times", ofRank, (x, by) -> x.ways(2, 0, by, 0, 0), noKinds);
      bad("RANK " + r + ", j", ofRank, (x, j) -> x.ways(2, 0, 0, 1, j), noKinds);
    }
    bad("times", BoundaryTest::busy, (x, n) -> x.ways(0, 0, 1, n, 0), LOW, -1, 13, HIGH);
    due("no times, to itself", x -> x.near(0, 4, 9) == 1 ? x.ways(0, 4, 4, 0, 4) : -9, 1);
    due("no times, to another", x -> x.near(0, 4, 9) == 1 ? x.ways(0, 4, 4, 0, 3) : -9, 0);
    due("once", x -> x.near(0, 4, 9) == 1 ? x.ways(0, 4, 4, 1, 4) : -9, 9);
    due("the most times", x -> x.near(0, 1, 1) == 1 ? x.ways(0, 1, 1, 12, 1) : -9, 233);
    due("i fused with x, not x with i", x -> {
      x.rank(0, 3);
      x.put(0, 1, 2, 0, 4);
      x.put(0, 2, 1, 0, 7);
      return x.ways(0, 1, 2, 1, 0);
    }, 4);
    for (int n : new int[] {10, 11, 12}) {
      due("9 by 45 to the " + (n - 1) + (n < 12 ? "" : ", wrapped"), x -> {
        fillForWrap(x);
        return x.ways(0, 3, 0, n, 2);
      }, wrapped(n - 1));
    }
    due("the WORD has no part in it", x -> x.letter(4) == 1 ? x.ways(0, 0, 0, 3, 0) : -9, 1);
    due("the WORD stays", x -> x.letter(4) == 1 && x.ways(0, 0, 0, 3, 0) == 1 ? x.empty() : -9, 1);
    takenIfNotRight("not RIGHT", x -> x.ways(0, 1, 0, 12, 1), 1);
  }

  private static void closed() {
    promise = 17;
    OpenCall ofTable = (x, t) -> x.closed(t, 1);
    taken("table", BoundaryTest::nothing, ofTable, 1, 0, 5);
    bad("table", BoundaryTest::busy, ofTable, NO_TABLES);
    for (int r = 1; r <= 5; r++) {
      Consumer<FuseBench> ofRank = groupWith(r);
      int all = (1 << r) - 1;
      OpenCall ofSet = (x, set) -> x.closed(0, set);
      taken("KIND 0 alone, RANK " + r + ", set", ofRank, ofSet, 1, 1);
      taken("all KINDS, RANK " + r + ", set", ofRank, ofSet, 1, all);
      bad("the empty set, RANK " + r + ", set", ofRank, ofSet, 0);
      bad("no such KINDS, RANK " + r + ", set", ofRank, ofSet, LOW, -1, all + 1, all + 2, 1 << 5, HIGH);
      if (r > 1) {
        taken("all KINDS but 0, RANK " + r + ", set", ofRank, ofSet, 0, all - 1);
        taken("the last KIND alone, RANK " + r + ", set", ofRank, ofSet, 0, 1 << r - 1);
      }
    }
    taken("a KIND without its PARTNER, set", groupWith(5), (x, set) -> x.closed(0, set), 0, 3);
    taken("two KINDS without what they fuse to, set", groupWith(5), (x, set) -> x.closed(0, set), 0, 19);
    noIfNotRight("KIND 0 alone", x -> x.closed(0, 1));
    noIfNotRight("all KINDS", x -> x.closed(0, 7));
    bad("BAD ahead of NO, set", x -> breakLaw(x, 3), (x, set) -> x.closed(0, set), -1, 0, 8);
  }

  private static void least() {
    promise = 18;
    OpenCall ofTable = (x, t) -> x.least(t, 0);
    taken("table", BoundaryTest::nothing, ofTable, 1, 0, 5);
    bad("table", BoundaryTest::busy, ofTable, NO_TABLES);
    for (int r = 1; r <= 5; r++) {
      Consumer<FuseBench> ofRank = groupWith(r);
      int all = (1 << r) - 1;
      OpenCall ofSet = (x, set) -> x.least(0, set);
      taken("none, RANK " + r + ", set", ofRank, ofSet, 1, 0);
      taken("KIND 0, RANK " + r + ", set", ofRank, ofSet, 1, 1);
      taken("the last KIND, RANK " + r + ", set", ofRank, ofSet, all, 1 << r - 1);
      taken("all KINDS, RANK " + r + ", set", ofRank, ofSet, all, all);
      bad("no such KINDS, RANK " + r + ", set", ofRank, ofSet, LOW, -1, all + 1, all + 2, 1 << 5, HIGH);
    }
    taken("half of the GROUP of 4, set", groupWith(4), (x, set) -> x.least(0, set), 5, 4, 5);
    noIfNotRight("none", x -> x.least(0, 0));
    noIfNotRight("all KINDS", x -> x.least(0, 7));
    bad("BAD ahead of NO, set", x -> breakLaw(x, 3), (x, set) -> x.least(0, set), -1, 8);
  }

  private static void core() {
    promise = 19;
    taken("table", BoundaryTest::nothing, FuseBench::core, 1, 0, 5);
    bad("table", BoundaryTest::busy, FuseBench::core, NO_TABLES);
    for (int n = 1; n <= 5; n++) {
      taken("the least, GROUP of " + n + ", table", groupWith(n), FuseBench::core, 1, 0);
    }
    for (int n = 1; n <= 4; n++) {
      int many = n;
      taken("NEAR GROUP of " + n + " and 0, table", x -> x.near(0, many, 0), FuseBench::core,
          (1 << n) - 1, 0);
      taken("all KINDS, NEAR GROUP of " + n + " and 1, table", x -> x.near(0, many, 1), FuseBench::core,
          (2 << n) - 1, 0);
    }
    taken("not by the last KIND alone, table", BoundaryTest::nearOfTwoTurned, FuseBench::core, 5, 0);
    noIfNotRight("table 0", x -> x.core(0));
  }

  private static void grade() {
    promise = 20;
    OpenCall ofTable = (x, t) -> x.grade(t, 0);
    taken("table", BoundaryTest::nothing, ofTable, 0, 0, 5);
    bad("table", BoundaryTest::busy, ofTable, NO_TABLES);
    for (int r = 1; r <= 5; r++) {
      OpenCall ofKind = (x, i) -> x.grade(0, i);
      taken("the first KIND of the GROUP of " + r + ",", groupWith(r), ofKind, 0, 0);
      taken("the last KIND of the GROUP of " + r + ",", groupWith(r), ofKind, r - 1, r - 1);
      bad("GROUP of " + r + ", KIND", groupWith(r), ofKind, LOW, -1, r, HIGH);
    }
    taken("the last of the GROUP is of the unit's, KIND", x -> x.near(0, 4, 0),
        (x, i) -> x.grade(0, i), 0, 3);
    taken("the one KIND more is of its own, KIND", x -> x.near(0, 4, 0), (x, i) -> x.grade(0, i), 4, 4);
    taken("all are of one, KIND", x -> x.near(0, 4, 1), (x, i) -> x.grade(0, i), 0, 4);
    taken("told by the least of two, KIND", x -> {
      times(1, 1).accept(x);
      x.group(1, 2);
      x.together(0, 1, 0);
    }, (x, i) -> x.grade(0, i), 1, 3);
    taken("the one KIND more in between, KIND", BoundaryTest::nearOfTwoTurned, (x, i) -> x.grade(0, i), 1, 1);
    taken("the last of the GROUP after it, KIND", BoundaryTest::nearOfTwoTurned, (x, i) -> x.grade(0, i), 0, 2);
    noIfNotRight("the first KIND", x -> x.grade(0, 0));
    noIfNotRight("the last KIND", x -> x.grade(0, 2));
    bad("BAD ahead of NO, KIND", x -> breakLaw(x, 3), (x, i) -> x.grade(0, i), -1, 3);
  }

  private static void within() {
    promise = 21;
    taken("table", BoundaryTest::nothing, FuseBench::within, 1, 0, 5);
    bad("table", BoundaryTest::busy, FuseBench::within, NO_TABLES);
    int[] divisors = {1, 2, 2, 3, 2};
    for (int n = 1; n <= 5; n++) {
      taken("GROUP of " + n + ", table", groupWith(n), FuseBench::within, divisors[n - 1], 0);
    }
    for (int n = 1; n <= 4; n++) {
      int many = n;
      taken("NEAR GROUP of " + n + ", table", x -> x.near(0, many, 9), FuseBench::within,
          divisors[n - 1] + 1, 0);
    }
    noIfNotRight("table 0", x -> x.within(0));
  }

  private static void like() {
    promise = 22;
    taken("first", BoundaryTest::nothing, (x, t) -> x.like(t, 2), 1, 0, 5);
    taken("second", BoundaryTest::nothing, (x, t) -> x.like(2, t), 1, 0, 5);
    bad("first", BoundaryTest::busy, (x, t) -> x.like(t, 1), NO_TABLES);
    bad("second", BoundaryTest::busy, (x, t) -> x.like(1, t), NO_TABLES);
    bad("both", BoundaryTest::busy, (x, t) -> x.like(t, t), NO_TABLES);
    int all = 1;
    for (int r = 1; r <= 5; r++) {
      int kinds = r;
      due("all NAMINGS of RANK " + r, x -> {
        x.rank(0, kinds);
        x.rank(5, kinds);
        return x.like(0, 5);
      }, all);
      all *= r;
      if (r > 1) {
        due("unlike RANKS " + (r - 1) + ", " + r, x -> {
          x.rank(0, kinds - 1);
          x.rank(1, kinds);
          return x.like(0, 1);
        }, 0);
        due("unlike RANKS " + r + ", " + (r - 1), x -> {
          x.rank(0, kinds);
          x.rank(1, kinds - 1);
          return x.like(0, 1);
        }, 0);
      }
    }
    due("RANK 1, unlike numbers", x -> x.put(1, 0, 0, 0, 2) == 1 ? x.like(0, 1) : -9, 0);
    due("unlike in the last number alone", x -> {
      x.rank(0, 5);
      x.rank(1, 5);
      x.put(0, 4, 4, 4, 8);
      x.put(1, 4, 4, 4, 9);
      return x.like(0, 1);
    }, 0);
    due("0 to 0 alone", x -> {
      x.group(0, 2);
      x.rank(1, 2);
      for (int[] place : new int[][] {{0, 0, 1}, {0, 1, 0}, {1, 0, 0}, {1, 1, 1}}) {
        x.put(1, place[0], place[1], place[2], 1);
        x.put(1, place[0], place[1], 1 - place[2], 0);
      }
      return x.like(0, 1);
    }, 0);
    due("one for one alone, though all numbers are alike", x -> {
      x.rank(0, 4);
      for (int i = 0; i < 4; i++) {
        x.put(0, 0, i, i, 0);
        x.put(0, i, 0, i, 0);
      }
      return x.like(0, 0);
    }, 6);
    due("one NAMING of 24", x -> {
      x.rank(0, 5);
      x.rank(1, 5);
      x.put(0, 1, 2, 3, 9);
      x.put(1, 4, 3, 2, 9);
      return x.like(0, 1);
    }, 1);
    takenIfNotRight("not RIGHT", x -> x.like(0, 0), 1, 1, 2, 1, 2);
  }

  private static boolean isOneOf(int number, int... numbers) {
    for (int each : numbers) {
      if (each == number) {
        return true;
      }
    }
    return false;
  }

  private static void maps() {
    promise = 23;
    OpenCall ofTable = (x, t) -> x.maps(t, 13);
    taken("table", BoundaryTest::nothing, ofTable, 1, 0, 5);
    bad("table", BoundaryTest::busy, ofTable, NO_TABLES);
    OpenCall ofPrime = (x, q) -> x.maps(0, q);
    taken("RANK 1, q", BoundaryTest::nothing, ofPrime, 1, PRIMES);
    bad("q", BoundaryTest::busy, ofPrime, NO_PRIMES);
    for (int q : PRIMES) {
      // The GROUP of n maps by the roots of 1 to the power n, and by nothing else.
      for (int n = 1; n <= 5; n++) {
        int roots = 0;
        for (int u = 0; u < q; u++) {
          roots += (int) Math.pow(u, n) % q == 1 ? 1 : 0;
        }
        taken("GROUP of " + n + ", q", groupWith(n), ofPrime, n == 1 ? 1 : roots, q);
      }
    }
    taken("none, q", x -> x.near(0, 1, 1), ofPrime, 0, 2, 3);
    taken("only u(1) 1, q", x -> x.near(0, 1, 0), ofPrime, 1, 2);
    taken("a remainder of 0, q", x -> x.near(0, 3, 0), ofPrime, 1, 3);
    taken("the last one is late, q", BoundaryTest::lateMap, ofPrime, 5, 13);
    for (int q : PRIMES) {
      noIfNotRight("q " + q, x -> x.maps(0, q));
    }
    bad("BAD ahead of NO, q", x -> breakLaw(x, 5), ofPrime, NO_PRIMES);
    for (int q = 0; q <= 20; q++) {
      taken("only six primes, q", BoundaryTest::nothing, ofPrime, isOneOf(q, PRIMES) ? 1 : BAD, q);
    }
  }

  private static void map() {
    promise = 24;
    OpenCall ofTable = (x, t) -> x.map(t, 13, 0, 0);
    taken("table", BoundaryTest::nothing, ofTable, 1, 0, 5);
    bad("table", BoundaryTest::busy, ofTable, NO_TABLES);
    OpenCall ofPrime = (x, q) -> x.map(0, q, 0, 0);
    taken("RANK 1, q", BoundaryTest::nothing, ofPrime, 1, PRIMES);
    bad("q", BoundaryTest::busy, ofPrime, NO_PRIMES);
    for (int r = 1; r <= 5; r++) {
      OpenCall ofKind = (x, i) -> x.map(0, 11, 0, i);
      taken("the first KIND of RANK " + r + ",", groupWith(r), ofKind, 1, 0);
      taken("the last KIND of RANK " + r + ",", groupWith(r), ofKind, 1, r - 1);
      bad("RANK " + r + ", KIND", groupWith(r), ofKind, LOW, -1, r, HIGH);
    }
    for (int q : PRIMES) {
      OpenCall ofNumber = (x, k) -> x.map(0, q, k, 1);
      taken("the first by " + q + ",", groupWith(2), ofNumber, 1, 0);
      taken("the last by " + q + ",", groupWith(2), ofNumber, q - 1, q == 2 ? 0 : 1);
      taken("not so many by " + q + ",", groupWith(2), ofNumber, NONE, q == 2 ? 1 : 2, 99, HIGH);
      bad("below 0 by " + q + ", k", groupWith(2), ofNumber, LOW, -1);
    }
    taken("none at all, k", x -> x.near(0, 1, 1), (x, k) -> x.map(0, 2, k, 0), NONE, 0);
    taken("not so many, of KIND 0 too, k", groupWith(2), (x, k) -> x.map(0, 3, k, 0), NONE, 2);
    taken("a remainder of 0, k", x -> x.near(0, 3, 0), (x, k) -> x.map(0, 3, k, 3), 0, 0);
    int[] roots = {1, 3, 4, 5, 9};
    for (int k = 0; k < 5; k++) {
      taken("in order, k", groupWith(5), (x, number) -> x.map(0, 11, number, 1), roots[k], k);
      taken("the last KIND in that order, k", groupWith(5), (x, number) -> x.map(0, 11, number, 4),
          new int[] {1, 4, 3, 9, 5}[k], k);
    }
    taken("three with u(1) 0, k", BoundaryTest::lateMap, (x, k) -> x.map(0, 13, k, 1), 0, 0, 1, 2);
    taken("the last but one, k", BoundaryTest::lateMap, (x, k) -> x.map(0, 13, k, 1), 4, 3);
    taken("the last, late one, k", BoundaryTest::lateMap, (x, k) -> x.map(0, 13, k, 1), 12, 4);
    taken("the last, late one's last KIND, k", BoundaryTest::lateMap, (x, k) -> x.map(0, 13, k, 4), 1, 4);
    taken("beyond the late one, k", BoundaryTest::lateMap, (x, k) -> x.map(0, 13, k, 1), NONE, 5);
    taken("beyond the order, k", groupWith(5), (x, k) -> x.map(0, 11, k, 1), NONE, 5);
    noIfNotRight("the first", x -> x.map(0, 2, 0, 0));
    noIfNotRight("NO ahead of NONE", x -> x.map(0, 13, HIGH, 2));
    bad("BAD ahead of NO, k", x -> breakLaw(x, 5), (x, k) -> x.map(0, 13, k, 0), LOW, -1);
    bad("BAD ahead of NO, KIND", x -> breakLaw(x, 5), (x, i) -> x.map(0, 13, 0, i), -1, 3);
    bad("BAD ahead of NO, q", x -> breakLaw(x, 5), ofPrime, NO_PRIMES);
    bad("BAD ahead of NONE, KIND", groupWith(2), (x, i) -> x.map(0, 13, 99, i), -1, 2);
    bad("BAD ahead of NONE, q", groupWith(2), (x, q) -> x.map(0, q, 99, 0), NO_PRIMES);
  }

  private static void size() {
    promise = 25;
    taken("table", BoundaryTest::nothing, FuseBench::size, 10, 0, 5);
    bad("table", BoundaryTest::busy, FuseBench::size, NO_TABLES);
    for (int n = 1; n <= 5; n++) {
      taken("whole, GROUP of " + n + ", table", groupWith(n), FuseBench::size, 10 * n, 0);
    }
    // n, a and n + (a + root(a a + 4 n)) / 2 in tenths: 6.19.., 7.37.., 4 and 6 just so, 4.73.., 13.42..
    for (int[] row : new int[][] {
        {1, 5, 61}, {2, 5, 73}, {2, 1, 40}, {3, 2, 60}, {4, 0, 60}, {3, 0, 47}, {1, 9, 101}, {4, 9, 134}}) {
      taken("cut, NEAR GROUP of " + row[0] + " and " + row[1] + ", table",
          x -> x.near(0, row[0], row[1]), FuseBench::size, row[2], 0);
    }
    taken("18.51.., table", x -> {
      times(3, 3).accept(x);
      x.together(0, 1, 0);
    }, FuseBench::size, 185, 0);
    taken("26.46.., table", x -> {
      times(9, 1).accept(x);
      x.together(0, 1, 0);
    }, FuseBench::size, 264, 0);
    noIfNotRight("table 0", x -> x.size(0));
    due("RIGHT again by one put", x -> {
      breakLaw(x, 4);
      x.put(0, 2, 2, 2, 0);
      return x.size(0);
    }, 30);
  }

  /** The digest of what is told digit by digit. */
  private static long digestOf(String digits) {
    BigInteger h = BigInteger.valueOf(223);
    for (char digit : digits.toCharArray()) {
      h = h.multiply(BigInteger.valueOf(31)).add(BigInteger.valueOf(digit - '0'));
    }
    return h.longValue();
  }

  private static void digest() {
    promise = 26;
    due("a new object", FuseBench::digest, digestOf("1111111111110"));
    due("the first table's number", x -> {
      x.put(0, 0, 0, 0, 9);
      return x.digest();
    }, digestOf("1911111111110"));
    due("the last table's number", x -> {
      x.put(5, 0, 0, 0, 0);
      return x.digest();
    }, digestOf("1111111111100"));
    due("a WORD of one KIND 0 is none that is empty", x -> {
      x.letter(0);
      return x.digest();
    }, digestOf("11111111111110"));
    due("all numbers of a RANK, i, then j, then k", x -> {
      x.rank(5, 2);
      for (int n = 0; n < 8; n++) {
        x.put(5, n >> 2, n >> 1 & 1, n & 1, n + 1);
      }
      return x.digest();
    }, digestOf("1111111111" + "2" + "12345678" + "0"));
    due("the greatest RANK", x -> {
      x.rank(0, 5);
      return x.digest();
    }, digestOf("5" + unitNumbers(5) + "1111111111" + "0"));
    due("RANK goes down: no more numbers than it has", x -> {
      x.group(0, 5);
      x.rank(0, 1);
      return x.digest();
    }, digestOf("1111111111110"));
    due("a full WORD is told by its length and KINDS", x -> {
      fillWord(x);
      return x.digest() - digestOfFullWord();
    }, 0);
    due("the 512th call", x -> {
      x.digest();
      for (int n = 0; n < 255; n++) {
        x.take(n % 6, 4, 1, n % 2, n % 4);
        x.rank(n % 6, 1);
      }
      return x.digest();
    }, digestOf("1111111111110"));
    due("asked twice", x -> {
      busy(x);
      return x.digest() - x.digest();
    }, 0);
    due("asking changes nothing", x -> {
      busy(x);
      long before = x.digest();
      askAll(x);
      return x.digest() - before;
    }, 0);
  }

  private static long digestOfFullWord() {
    // 14 is no single digit, so it is mixed in apart.
    long h = 31 * digestOf("111111111111") + 14;
    for (int n = 0; n < 14; n++) {
      h = 31 * h + n % 5;
    }
    return h;
  }

  private static void askAll(FuseBench x) {
    x.at(0, 2, 2, 2);
    x.fault(3, 4);
    x.partner(1, 4);
    x.list(3, 3, 0);
    x.fused(0, 2);
    x.ways(0, 2, 2, 12, 2);
    x.closed(1, 3);
    x.least(1, 2);
    x.core(0);
    x.grade(0, 2);
    x.within(0);
    x.like(0, 1);
    x.maps(1, 11);
    x.map(1, 11, 4, 4);
    x.size(5);
  }

  public static void main(String[] args) {
    newObject();
    rank();
    put();
    at();
    fault();
    partner();
    copy();
    group();
    near();
    together();
    list();
    take();
    letter();
    empty();
    fused();
    ways();
    closed();
    least();
    core();
    grade();
    within();
    like();
    maps();
    map();
    size();
    digest();
    int cases = 0;
    for (int number = 1; number <= PROMISES; number++) {
      cases += casesOf[number];
      if (casesOf[number] == 0) {
        wrong++;
        System.out.println("promise " + number + " has no case");
      }
    }
    System.out.println(wrong == 0
        ? cases + " boundary cases are as due" : wrong + " boundary cases are not as due");
    if (wrong != 0) {
      System.exit(1);
    }
  }
}
