import java.util.ArrayList;
import java.util.Arrays;
import java.util.HashMap;
import java.util.List;
import java.util.Map;
import java.util.Random;

/**
 * Long runs of calls held against a model that is written from the document by the slowest and
 * plainest ways: no shared code and, where there is a choice, another way than the class takes.
 */
public final class ModelTest {
  private static final int RUNS = 120;
  private static final int CALLS = 500;
  private static final int[] EXTREMES = {Integer.MIN_VALUE, -3, -2, -1, 99, Integer.MAX_VALUE};
  private static final int[] PRIMES = {2, 3, 5, 7, 11, 13};
  private static final int NONE = -1, BAD = -2, NO = -3;

  private static int wrong = 0;
  private static int rankFive = 0;

  /** The model: tables as arrays of just their rank. */
  private static final class Model {
    private static final Map<String, List<int[][][]>> LISTS = new HashMap<>();

    final int[][][][] tables = new int[6][][][];
    final List<Integer> word = new ArrayList<>();

    Model() {
      for (int t = 0; t < 6; t++) {
        tables[t] = fresh(1);
      }
    }

    static int[][][] fresh(int r) {
      int[][][] n = new int[r][r][r];
      for (int i = 0; i < r; i++) {
        n[0][i][i] = 1;
        n[i][0][i] = 1;
      }
      return n;
    }

    boolean noTable(int t) {
      return t < 0 || t > 5;
    }

    boolean noKinds(int t, int... kinds) {
      if (noTable(t)) {
        return true;
      }
      for (int kind : kinds) {
        if (kind < 0 || kind >= tables[t].length) {
          return true;
        }
      }
      return false;
    }

    static int[] fault(int[][][] n) {
      int r = n.length;
      for (int i = 0; i < r; i++) {
        for (int j = 0; j < r; j++) {
          int unit = i == j ? 1 : 0;
          if (n[0][i][j] != unit || n[i][0][j] != unit) {
            return new int[] {1, i, j, NONE, NONE};
          }
        }
      }
      for (int i = 0; i < r; i++) {
        for (int j = 0; j < r; j++) {
          for (int k = 0; k < r; k++) {
            if (n[i][j][k] != n[j][i][k]) {
              return new int[] {2, i, j, k, NONE};
            }
          }
        }
      }
      for (int i = 0; i < r; i++) {
        int above = 0;
        boolean ones = true;
        for (int j = 0; j < r; j++) {
          above += n[i][j][0] > 0 ? 1 : 0;
          ones &= n[i][j][0] <= 1;
        }
        if (above != 1 || !ones) {
          return new int[] {3, i, NONE, NONE, NONE};
        }
      }
      return lateFault(n);
    }

    private static int[] lateFault(int[][][] n) {
      int r = n.length;
      for (int i = 0; i < r; i++) {
        for (int j = 0; j < r; j++) {
          for (int k = 0; k < r; k++) {
            if (n[i][j][k] != n[partner(n, i)][k][j]) {
              return new int[] {4, i, j, k, NONE};
            }
          }
        }
      }
      for (int i = 0; i < r; i++) {
        for (int j = 0; j < r; j++) {
          for (int k = 0; k < r; k++) {
            for (int l = 0; l < r; l++) {
              int left = 0;
              int right = 0;
              for (int x = 0; x < r; x++) {
                left += n[i][j][x] * n[x][k][l];
                right += n[j][k][x] * n[i][x][l];
              }
              if (left != right) {
                return new int[] {5, i, j, k, l};
              }
            }
          }
        }
      }
      return new int[] {0, NONE, NONE, NONE, NONE};
    }

    static int partner(int[][][] n, int i) {
      for (int j = 0; j < n.length; j++) {
        if (n[i][j][0] > 0) {
          return j;
        }
      }
      throw new IllegalStateException("no partner");
    }

    boolean notRight(int t) {
      return fault(tables[t])[0] != 0;
    }

    /** All tables that keep to law 2 are tried; then they are sorted. */
    static List<int[][][]> listed(int r, int m, int p) {
      String key = r + " " + m + " " + p;
      if (!LISTS.containsKey(key)) {
        List<int[][][]> all = new ArrayList<>();
        int[][][] n = fresh(r);
        for (int i = 1; i < r; i++) {
          n[i][p == 1 && i < 3 ? 3 - i : i][0] = 1;
        }
        List<int[]> places = new ArrayList<>();
        for (int k = r - 1; k >= 1; k--) {
          for (int j = r - 1; j >= 1; j--) {
            for (int i = 1; i <= j; i++) {
              places.add(new int[] {i, j, k});
            }
          }
        }
        fillPlaces(n, m, places, 0, all);
        all.sort((a, b) -> Arrays.deepToString(a).compareTo(Arrays.deepToString(b)));
        LISTS.put(key, all);
      }
      return LISTS.get(key);
    }

    private static void fillPlaces(int[][][] n, int m, List<int[]> places, int at, List<int[][][]> all) {
      if (at == places.size()) {
        if (fault(n)[0] == 0) {
          all.add(cloned(n));
        }
        return;
      }
      int[] p = places.get(at);
      for (int v = 0; v <= m; v++) {
        n[p[0]][p[1]][p[2]] = v;
        n[p[1]][p[0]][p[2]] = v;
        fillPlaces(n, m, places, at + 1, all);
      }
    }

    static int[][][] cloned(int[][][] n) {
      int[][][] c = new int[n.length][n.length][];
      for (int i = 0; i < n.length; i++) {
        for (int j = 0; j < n.length; j++) {
          c[i][j] = n[i][j].clone();
        }
      }
      return c;
    }

    static boolean noList(int r, int m, int p) {
      if (r < 2 || r > 4 || m < 1 || m > 3 || p < 0 || p > 1) {
        return true;
      }
      return r == 4 && m > 1 || r == 2 && p == 1;
    }

    int together(int a, int b, int to) {
      if (noTable(a) || noTable(b) || noTable(to)) {
        return BAD;
      }
      int s = tables[b].length;
      int r = tables[a].length * s;
      if (r > 5) {
        return NO;
      }
      int[][][] n = new int[r][r][r];
      for (int i = 0; i < r; i++) {
        for (int j = 0; j < r; j++) {
          for (int k = 0; k < r; k++) {
            n[i][j][k] = tables[a][i / s][j / s][k / s] * tables[b][i % s][j % s][k % s];
            if (n[i][j][k] > 9) {
              return NO;
            }
          }
        }
      }
      tables[to] = n;
      return r;
    }

    /** Backwards, from what is asked for to KIND from. */
    static long fusedFrom(int[][][] n, int from, List<Integer> letters, int to) {
      long[] w = new long[n.length];
      w[to] = 1;
      for (int at = letters.size() - 1; at >= 0; at--) {
        long[] earlier = new long[n.length];
        for (int i = 0; i < n.length; i++) {
          for (int k = 0; k < n.length; k++) {
            earlier[i] += n[i][letters.get(at)][k] * w[k];
          }
        }
        w = earlier;
      }
      return w[from];
    }

    static boolean closed(int[][][] n, int set) {
      boolean good = (set & 1) != 0;
      for (int i = 0; i < n.length; i++) {
        good &= (set >> i & 1) == 0 || (set >> partner(n, i) & 1) != 0;
        for (int j = 0; j < n.length; j++) {
          for (int k = 0; k < n.length; k++) {
            boolean both = (set >> i & 1) != 0 && (set >> j & 1) != 0;
            good &= !both || n[i][j][k] == 0 || (set >> k & 1) != 0;
          }
        }
      }
      return good;
    }

    static int least(int[][][] n, int set) {
      int common = (1 << n.length) - 1;
      for (int more = 0; more < 1 << n.length; more++) {
        if ((more & set) == set && closed(n, more)) {
          common &= more;
        }
      }
      return common;
    }

    static int core(int[][][] n) {
      int set = 0;
      for (int i = 0; i < n.length; i++) {
        for (int k = 0; k < n.length; k++) {
          set |= n[i][partner(n, i)][k] > 0 ? 1 << k : 0;
        }
      }
      return least(n, set);
    }

    static int grade(int[][][] n, int kind) {
      int[] lowest = new int[n.length];
      for (int i = 0; i < n.length; i++) {
        lowest[i] = i;
      }
      for (int round = 0; round < n.length; round++) {
        for (int i = 0; i < n.length; i++) {
          for (int c = 0; c < n.length; c++) {
            for (int j = 0; j < n.length; j++) {
              if ((core(n) >> c & 1) != 0 && n[i][c][j] > 0) {
                lowest[i] = Math.min(lowest[i], lowest[j]);
                lowest[j] = lowest[i];
              }
            }
          }
        }
      }
      return lowest[kind];
    }

    static int like(int[][][] a, int[][][] b) {
      int r = a.length;
      if (r != b.length) {
        return 0;
      }
      int count = 0;
      int codes = 1;
      for (int i = 1; i < r; i++) {
        codes *= r;
      }
      for (int code = 0; code < codes; code++) {
        int[] name = new int[r];
        int used = 1;
        int rest = code;
        for (int i = 1; i < r; i++) {
          name[i] = rest % r;
          used |= 1 << name[i];
          rest /= r;
        }
        count += used == (1 << r) - 1 && same(a, b, name) ? 1 : 0;
      }
      return count;
    }

    private static boolean same(int[][][] a, int[][][] b, int[] name) {
      for (int i = 0; i < a.length; i++) {
        for (int j = 0; j < a.length; j++) {
          for (int k = 0; k < a.length; k++) {
            if (a[i][j][k] != b[name[i]][name[j]][name[k]]) {
              return false;
            }
          }
        }
      }
      return true;
    }

    /** All rows of remainders are tried, and all products of each. */
    static List<int[]> allMaps(int[][][] n, int q) {
      List<int[]> all = new ArrayList<>();
      int r = n.length;
      int codes = 1;
      for (int i = 1; i < r; i++) {
        codes *= q;
      }
      for (int code = 0; code < codes; code++) {
        int[] u = new int[r];
        u[0] = 1;
        int rest = code;
        for (int i = r - 1; i >= 1; i--) {
          u[i] = rest % q;
          rest /= q;
        }
        if (isMap(n, q, u)) {
          all.add(u);
        }
      }
      return all;
    }

    private static boolean isMap(int[][][] n, int q, int[] u) {
      for (int i = 0; i < u.length; i++) {
        for (int j = 0; j < u.length; j++) {
          int sum = 0;
          for (int k = 0; k < u.length; k++) {
            sum += n[i][j][k] * u[k];
          }
          if (sum % q != u[i] * u[j] % q) {
            return false;
          }
        }
      }
      return true;
    }

    static boolean noPrime(int q) {
      return q != 2 && q != 3 && q != 5 && q != 7 && q != 11 && q != 13;
    }

    /** All sums of a RIGHT table are above 0, so a row led on again and again settles soon. */
    static int size(int[][][] n) {
      int r = n.length;
      double[] row = new double[r];
      Arrays.fill(row, 1);
      double v = 0;
      for (int step = 0; step < 2000; step++) {
        double[] led = new double[r];
        double all = 0;
        for (int k = 0; k < r; k++) {
          for (int i = 0; i < r; i++) {
            for (int j = 0; j < r; j++) {
              led[k] += row[i] * n[j][i][k];
            }
          }
          all += led[k];
        }
        double before = Arrays.stream(row).sum();
        v = all / before;
        for (int k = 0; k < r; k++) {
          row[k] = led[k] / all;
        }
      }
      return (int) Math.floor(v * 10 + 1e-7);
    }

    long digest() {
      long h = 223;
      for (int[][][] n : tables) {
        h = 31 * h + n.length;
        for (int[][] plane : n) {
          for (int[] line : plane) {
            for (int v : line) {
              h = 31 * h + v;
            }
          }
        }
      }
      h = 31 * h + word.size();
      for (int k : word) {
        h = 31 * h + k;
      }
      return h;
    }

    long answer(String call, int[] a) {
      switch (call) {
        case "rank":
          if (noTable(a[0]) || a[1] < 1 || a[1] > 5) {
            return BAD;
          }
          tables[a[0]] = fresh(a[1]);
          return 1;
        case "put":
          if (noKinds(a[0], a[1], a[2], a[3]) || a[4] < 0 || a[4] > 9) {
            return BAD;
          }
          int was = tables[a[0]][a[1]][a[2]][a[3]];
          tables[a[0]][a[1]][a[2]][a[3]] = a[4];
          return was;
        case "at":
          return noKinds(a[0], a[1], a[2], a[3]) ? BAD : tables[a[0]][a[1]][a[2]][a[3]];
        case "fault":
          return noTable(a[0]) || a[1] < 0 || a[1] > 4 ? BAD : fault(tables[a[0]])[a[1]];
        case "partner":
          return noKinds(a[0], a[1]) ? BAD : notRight(a[0]) ? NO : partner(tables[a[0]], a[1]);
        case "copy":
          if (noTable(a[0]) || noTable(a[1])) {
            return BAD;
          }
          tables[a[1]] = cloned(tables[a[0]]);
          return tables[a[1]].length;
        case "group":
          if (noTable(a[0]) || a[1] < 1 || a[1] > 5) {
            return BAD;
          }
          tables[a[0]] = groupOf(a[1], a[1]);
          return 1;
        case "near":
          return near(a);
        case "together":
          return together(a[0], a[1], a[2]);
        case "list":
          return noList(a[0], a[1], a[2]) ? BAD : listed(a[0], a[1], a[2]).size();
        case "take":
          if (noTable(a[0]) || noList(a[1], a[2], a[3]) || a[4] < 0) {
            return BAD;
          }
          if (a[4] >= listed(a[1], a[2], a[3]).size()) {
            return NO;
          }
          tables[a[0]] = cloned(listed(a[1], a[2], a[3]).get(a[4]));
          return 1;
        default:
          return laterAnswer(call, a);
      }
    }

    private static int[][][] groupOf(int n, int r) {
      int[][][] made = new int[r][r][r];
      for (int i = 0; i < n; i++) {
        for (int j = 0; j < n; j++) {
          made[i][j][(i + j) % n] = 1;
        }
      }
      return made;
    }

    private int near(int[] a) {
      if (noTable(a[0]) || a[1] < 1 || a[1] > 4 || a[2] < 0 || a[2] > 9) {
        return BAD;
      }
      int x = a[1];
      int[][][] made = groupOf(x, x + 1);
      for (int i = 0; i < x; i++) {
        made[i][x][x] = 1;
        made[x][i][x] = 1;
        made[x][x][i] = 1;
      }
      made[x][x][x] = a[2];
      tables[a[0]] = made;
      return 1;
    }

    private long laterAnswer(String call, int[] a) {
      switch (call) {
        case "letter":
          if (a[0] < 0 || a[0] > 4) {
            return BAD;
          }
          if (word.size() == 14) {
            return NO;
          }
          word.add(a[0]);
          return word.size();
        case "empty":
          int was = word.size();
          word.clear();
          return was;
        case "fused":
          if (noKinds(a[0], a[1])) {
            return BAD;
          }
          for (int k : word) {
            if (k >= tables[a[0]].length) {
              return BAD;
            }
          }
          return fusedFrom(tables[a[0]], 0, word, a[1]);
        case "ways":
          if (noKinds(a[0], a[1], a[2], a[4]) || a[3] < 0 || a[3] > 12) {
            return BAD;
          }
          List<Integer> same = new ArrayList<>();
          for (int n = 0; n < a[3]; n++) {
            same.add(a[2]);
          }
          return fusedFrom(tables[a[0]], a[1], same, a[4]);
        case "like":
          return noTable(a[0]) || noTable(a[1]) ? BAD : like(tables[a[0]], tables[a[1]]);
        case "digest":
          return digest();
        default:
          return withinAnswer(call, a);
      }
    }

    private boolean bad(String call, int[] a) {
      if (noTable(a[0])) {
        return true;
      }
      int sets = 1 << tables[a[0]].length;
      switch (call) {
        case "closed":
          return a[1] < 1 || a[1] >= sets;
        case "least":
          return a[1] < 0 || a[1] >= sets;
        case "grade":
          return noKinds(a[0], a[1]);
        case "maps":
          return noPrime(a[1]);
        case "map":
          return noPrime(a[1]) || a[2] < 0 || noKinds(a[0], a[3]);
        default:
          return false;
      }
    }

    private long withinAnswer(String call, int[] a) {
      if (bad(call, a)) {
        return BAD;
      }
      if (notRight(a[0])) {
        return NO;
      }
      int[][][] n = tables[a[0]];
      switch (call) {
        case "closed":
          return closed(n, a[1]) ? 1 : 0;
        case "least":
          return least(n, a[1]);
        case "core":
          return core(n);
        case "grade":
          return grade(n, a[1]);
        case "within":
          int count = 0;
          for (int set = 0; set < 1 << n.length; set++) {
            count += closed(n, set) ? 1 : 0;
          }
          return count;
        case "maps":
          return allMaps(n, a[1]).size();
        case "map":
          List<int[]> all = allMaps(n, a[1]);
          return a[2] < all.size() ? all.get(a[2])[a[3]] : NONE;
        case "size":
          return size(n);
        default:
          throw new IllegalStateException(call);
      }
    }
  }

  private static long asked(FuseBench x, String call, int[] a) {
    switch (call) {
      case "rank": return x.rank(a[0], a[1]);
      case "put": return x.put(a[0], a[1], a[2], a[3], a[4]);
      case "at": return x.at(a[0], a[1], a[2], a[3]);
      case "fault": return x.fault(a[0], a[1]);
      case "partner": return x.partner(a[0], a[1]);
      case "copy": return x.copy(a[0], a[1]);
      case "group": return x.group(a[0], a[1]);
      case "near": return x.near(a[0], a[1], a[2]);
      case "together": return x.together(a[0], a[1], a[2]);
      case "list": return x.list(a[0], a[1], a[2]);
      case "take": return x.take(a[0], a[1], a[2], a[3], a[4]);
      case "letter": return x.letter(a[0]);
      case "empty": return x.empty();
      case "fused": return x.fused(a[0], a[1]);
      case "ways": return x.ways(a[0], a[1], a[2], a[3], a[4]);
      case "closed": return x.closed(a[0], a[1]);
      case "least": return x.least(a[0], a[1]);
      case "core": return x.core(a[0]);
      case "grade": return x.grade(a[0], a[1]);
      case "within": return x.within(a[0]);
      case "like": return x.like(a[0], a[1]);
      case "maps": return x.maps(a[0], a[1]);
      case "map": return x.map(a[0], a[1], a[2], a[3]);
      case "size": return x.size(a[0]);
      case "digest": return x.digest();
      default: throw new IllegalStateException(call);
    }
  }

  /** One object and its model, with the calls that both get. */
  private static final class Pair {
    final FuseBench x = new FuseBench();
    final Model model = new Model();
    final Random random;
    final int run;
    int calls = 0;

    Pair(int run) {
      this.run = run;
      this.random = new Random(7919L * run + 1);
    }

    void call(String name, int... a) {
      if (calls >= CALLS) {
        return;
      }
      calls++;
      long want = model.answer(name, a);
      long got = asked(x, name, a);
      if (got != want) {
        wrong++;
        System.out.println("run " + run + ", call " + calls + ": " + name + Arrays.toString(a)
            + " gave " + got + ", due is " + want);
      }
    }

    int upTo(int most) {
      return random.nextInt(40) == 0 ? EXTREMES[random.nextInt(EXTREMES.length)]
          : random.nextInt(30) == 0 ? most + 1 : random.nextInt(most + 1);
    }

    int table() {
      return upTo(5);
    }

    int kindOf(int t) {
      return upTo(t < 0 || t > 5 ? 4 : model.tables[t].length - 1);
    }

    int prime() {
      return random.nextInt(20) == 0 ? upTo(16) : PRIMES[random.nextInt(PRIMES.length)];
    }

    void step() {
      int t = table();
      switch (random.nextInt(12)) {
        case 0:
          make(t);
          break;
        case 1:
          disturb(t);
          break;
        case 2:
          rename(random.nextInt(6), random.nextInt(6));
          break;
        case 3:
          for (int n = random.nextInt(6); n > 0; n--) {
            call("letter", upTo(random.nextInt(4) + 1));
          }
          call("fused", t, kindOf(t));
          if (random.nextInt(3) == 0) {
            call("empty");
          }
          break;
        case 4:
          call("ways", t, kindOf(t), kindOf(t), upTo(12), kindOf(t));
          call("digest");
          break;
        default:
          ask(t);
      }
    }

    void make(int t) {
      switch (random.nextInt(7)) {
        case 0:
          call("rank", t, 1 + upTo(4));
          break;
        case 1:
          call("group", t, 1 + upTo(4));
          break;
        case 2:
          call("near", t, 1 + upTo(3), upTo(9));
          break;
        case 3:
          call("copy", t, table());
          break;
        case 4:
          call("near", random.nextInt(6), 1, random.nextInt(5));
          call("together", table(), table(), t);
          break;
        default:
          int r = 2 + upTo(2);
          int m = r == 4 ? 1 + upTo(0) : 1 + upTo(2);
          int p = upTo(r == 2 ? 0 : 1);
          call("list", r, m, p);
          call("take", t, r, m, p, upTo(r == 2 ? 4 : 24));
      }
    }

    /** Breaks one law or none: a number alone, with its mirror, or with all that laws 2 and 4 tie. */
    void disturb(int t) {
      int i = kindOf(t);
      int j = kindOf(t);
      int k = kindOf(t);
      int v = upTo(random.nextInt(3) == 0 ? 9 : 2);
      int how = random.nextInt(3);
      call("put", t, i, j, k, v);
      if (how > 0) {
        call("put", t, j, i, k, v);
      }
      if (how > 1) {
        for (int[] turned : new int[][] {{i, k, j}, {k, i, j}, {j, k, i}, {k, j, i}}) {
          call("put", t, turned[0], turned[1], turned[2], v);
        }
      }
      call("at", t, i, j, k);
      for (int what = 0; what < 5; what++) {
        call("fault", t, what);
      }
    }

    void rename(int from, int to) {
      int[][][] n = Model.cloned(model.tables[from]);
      List<Integer> names = new ArrayList<>();
      for (int i = 1; i < n.length; i++) {
        names.add(i);
      }
      java.util.Collections.shuffle(names, random);
      names.add(0, 0);
      call("rank", to, n.length);
      for (int i = 0; i < n.length; i++) {
        for (int j = 0; j < n.length; j++) {
          for (int k = 0; k < n.length; k++) {
            int[] place = {names.get(i), names.get(j), names.get(k)};
            if (model.tables[to].length == n.length && n[i][j][k] != model.tables[to][place[0]][place[1]][place[2]]) {
              call("put", to, place[0], place[1], place[2], n[i][j][k]);
            }
          }
        }
      }
      call("like", from, to);
    }

    void ask(int t) {
      int q = prime();
      call("fault", t, upTo(4));
      call("partner", t, kindOf(t));
      call("closed", t, upTo(31));
      call("least", t, upTo(t < 0 || t > 5 ? 31 : (1 << model.tables[t].length) - 1));
      call("core", t);
      call("grade", t, kindOf(t));
      call("within", t);
      call("like", t, table());
      call("maps", t, q);
      call("map", t, q, upTo(4), kindOf(t));
      call("size", t);
    }
  }

  /** Every list, and every table on it, held against all that can be asked of a table. */
  private static void allListed() {
    for (int r = 2; r <= 4; r++) {
      for (int m = 1; m <= (r == 4 ? 1 : 3); m++) {
        for (int p = 0; p <= (r == 2 ? 0 : 1); p++) {
          int many = Model.listed(r, m, p).size();
          for (int n = 0; n <= many; n++) {
            Pair pair = new Pair(1000 + n);
            pair.call("take", 3, r, m, p, n);
            pair.call("list", r, m, p);
            askAll(pair, 3);
            pair.call("digest");
          }
        }
      }
    }
  }

  private static void allGroupsAndNear() {
    for (int n = 1; n <= 5; n++) {
      Pair pair = new Pair(2000 + n);
      pair.call("group", 3, n);
      askAll(pair, 3);
      for (int a = 0; a <= 9 && n < 5; a++) {
        Pair near = new Pair(3000 + 10 * n + a);
        near.call("near", 3, n, a);
        askAll(near, 3);
      }
    }
  }

  /** The greatest RANK, which no list has: all RIGHT tables within a bound, for these PARTNERS. */
  private static void allOfRankFive(int most, int... partners) {
    int[][][] n = Model.fresh(5);
    List<List<int[]>> tied = new ArrayList<>();
    boolean[][][] seen = new boolean[5][5][5];
    for (int i = 1; i < 5; i++) {
      n[i][partners[i]][0] = 1;
      for (int j = 1; j < 5; j++) {
        for (int k = 1; k < 5; k++) {
          if (!seen[i][j][k]) {
            tied.add(new ArrayList<>());
            tie(tied.get(tied.size() - 1), seen, partners, i, j, k);
          }
        }
      }
    }
    fillTied(n, most, tied, 0);
  }

  /** Gathers the places that laws 2 and 4 hold to one number. */
  private static void tie(List<int[]> places, boolean[][][] seen, int[] partners, int i, int j, int k) {
    if (!seen[i][j][k]) {
      seen[i][j][k] = true;
      places.add(new int[] {i, j, k});
      tie(places, seen, partners, j, i, k);
      tie(places, seen, partners, partners[i], k, j);
    }
  }

  private static void fillTied(int[][][] n, int most, List<List<int[]>> tied, int at) {
    if (at == tied.size()) {
      if (Model.fault(n)[0] == 0) {
        rankFive++;
        askRenamed(n, rankFive);
      }
      return;
    }
    for (int v = 0; v <= most; v++) {
      for (int[] place : tied.get(at)) {
        n[place[0]][place[1]][place[2]] = v;
      }
      fillTied(n, most, tied, at + 1);
    }
  }

  /** A RIGHT table is asked as it is, and with its KINDS named anew. */
  private static void askRenamed(int[][][] n, int seed) {
    Pair pair = new Pair(5000 + seed);
    pair.call("rank", 0, n.length);
    for (int i = 0; i < n.length; i++) {
      for (int j = 0; j < n.length; j++) {
        for (int k = 0; k < n.length; k++) {
          pair.call("put", 0, i, j, k, n[i][j][k]);
        }
      }
    }
    pair.rename(0, 1);
    askRow(pair, 0);
    askRow(pair, 1);
  }

  /** As askAll does, but by two primes alone and within the calls that an object has. */
  private static void askRow(Pair pair, int t) {
    int r = pair.model.tables[t].length;
    pair.call("fault", t, 0);
    for (int q : new int[] {5, 11}) {
      pair.call("maps", t, q);
      for (int i = 0; i < r; i++) {
        pair.call("partner", t, i);
        pair.call("grade", t, i);
        pair.call("map", t, q, i / 2, i);
        pair.call("map", t, q, 4, i);
      }
    }
    for (int set = 0; set < 1 << r; set++) {
      pair.call(set % 3 == 0 ? "least" : "closed", t, set);
    }
    pair.call("core", t);
    pair.call("within", t);
    pair.call("size", t);
    pair.call("like", t, t);
  }

  /** The characters of all turns of a cube, multiplied: RANK 5, and each KIND its own PARTNER. */
  private static void cubeTurns() {
    int[] members = {1, 3, 6, 8, 6};
    int[][] characters = {
        {1, 1, 1, 1, 1}, {1, 1, -1, 1, -1}, {2, 2, 0, -1, 0}, {3, -1, 1, 0, -1}, {3, -1, -1, 0, 1}};
    int[][][] n = new int[5][5][5];
    for (int i = 0; i < 5; i++) {
      for (int j = 0; j < 5; j++) {
        for (int k = 0; k < 5; k++) {
          for (int c = 0; c < 5; c++) {
            n[i][j][k] += members[c] * characters[i][c] * characters[j][c] * characters[k][c];
          }
          n[i][j][k] /= 24;
        }
      }
    }
    for (int seed = 0; seed < 12; seed++) {
      askRenamed(n, seed);
    }
  }

  private static void askAll(Pair pair, int t) {
    int r = pair.model.tables[t].length;
    for (int q : PRIMES) {
      int many = (int) pair.model.answer("maps", new int[] {t, q});
      pair.call("maps", t, q);
      for (int k = 0; k <= many; k++) {
        for (int i = 0; i < r; i++) {
          pair.call("map", t, q, k, i);
        }
      }
    }
    for (int set = 0; set <= 1 << r; set++) {
      pair.call("closed", t, set);
      pair.call("least", t, set);
    }
    for (int i = 0; i < r; i++) {
      pair.call("partner", t, i);
      pair.call("grade", t, i);
    }
    pair.call("core", t);
    pair.call("within", t);
    pair.call("size", t);
    pair.call("like", t, t);
  }

  public static void main(String[] args) {
    for (int run = 0; run < RUNS; run++) {
      Pair pair = new Pair(run);
      for (int t = 0; t < 6; t++) {
        pair.make(t);
      }
      for (int n = 0; n < CALLS && pair.calls < CALLS; n++) {
        pair.step();
      }
      pair.calls = Math.min(pair.calls, CALLS - 1);
      pair.call("digest");
    }
    allListed();
    allGroupsAndNear();
    allOfRankFive(1, 0, 2, 1, 3, 4);
    allOfRankFive(2, 0, 2, 1, 4, 3);
    cubeTurns();
    if (rankFive != 14) {
      wrong++;
      System.out.println("tables of rank 5 found: " + rankFive);
    }
    System.out.println(wrong == 0 ? "all runs agree with the model" : wrong + " answers differ");
    if (wrong != 0) {
      System.exit(1);
    }
  }
}
