import com.sun.management.ThreadMXBean;
import java.lang.management.ManagementFactory;
import java.lang.reflect.Array;
import java.lang.reflect.Field;
import java.lang.reflect.Modifier;
import java.util.Collections;
import java.util.IdentityHashMap;
import java.util.Set;

/** All calls of a run live in one room: an object takes little of it, and calls take none. */
public final class RoomTest {
  private static final int MOST_OBJECTS = 60;
  private static final int MOST_PARTS = 4000;
  private static final int CALLS = 512;
  // One row of five ints in each call would be some forty times as much.
  private static final long MOST_BYTES = 512;

  private static int wrong = 0;
  private static long answers = 0;

  private static void hold(boolean holds, String what) {
    if (!holds) {
      wrong++;
      System.out.println("not so: " + what);
    }
  }

  /** Counts fields and elements of all that can be reached, each object once. */
  private static int partsOf(Object at, Set<Object> seen) throws IllegalAccessException {
    if (at == null || !seen.add(at)) {
      return 0;
    }
    int parts = 0;
    if (at.getClass().isArray()) {
      parts = Array.getLength(at);
      for (int n = 0; n < Array.getLength(at) && at instanceof Object[]; n++) {
        parts += partsOf(Array.get(at, n), seen);
      }
      return parts;
    }
    for (Field field : at.getClass().getDeclaredFields()) {
      if (!Modifier.isStatic(field.getModifiers())) {
        field.setAccessible(true);
        parts += 1 + (field.getType().isPrimitive() ? 0 : partsOf(field.get(at), seen));
      }
    }
    return parts;
  }

  private static void lookAtObject(FuseBench x, String when) throws IllegalAccessException {
    Set<Object> seen = Collections.newSetFromMap(new IdentityHashMap<>());
    int parts = partsOf(x, seen);
    hold(seen.size() <= MOST_OBJECTS, when + ": objects " + seen.size());
    hold(parts <= MOST_PARTS, when + ": fields and elements " + parts);
  }

  /** Every call in turn, with the dearest numbers that it takes. */
  private static void askAll(FuseBench x, int calls) {
    for (int n = 0; n < calls; n++) {
      switch (n % 26) {
        case 0: answers += x.rank(5, 5); break;
        case 1: answers += x.put(5, 4, 4, 4, 9); break;
        case 2: answers += x.at(5, 4, 4, 4); break;
        case 3: answers += x.near(0, 4, 9); break;
        case 4: answers += x.fault(0, 4); break;
        case 5: answers += x.partner(0, 4); break;
        case 6: answers += x.copy(0, 1); break;
        case 7: answers += x.group(2, 5); break;
        case 8: answers += x.near(3, 1, 3); break;
        case 9: answers += x.together(3, 3, 4); break;
        case 10: answers += x.list(4, 1, n / 26 % 2); break;
        case 11: answers += x.take(5, 3, 3, 0, 19); break;
        case 12: answers += x.letter(1); break;
        case 13: answers += x.fused(0, 4); break;
        case 14: answers += x.ways(0, 4, 4, 12, 4); break;
        case 15: answers += x.closed(0, 31); break;
        case 16: answers += x.least(0, 16); break;
        case 17: answers += x.core(0); break;
        case 18: answers += x.grade(0, 4); break;
        case 19: answers += x.within(0); break;
        case 20: answers += x.like(2, 2); break;
        case 21: answers += x.maps(0, 13); break;
        case 22: answers += x.map(2, 11, 4, 4); break;
        case 23: answers += x.size(0); break;
        case 24: answers += x.empty(); break;
        default: answers += x.digest();
      }
    }
  }

  private static void lookAtCalls() {
    if (!(ManagementFactory.getThreadMXBean() instanceof ThreadMXBean counter)
        || !counter.isThreadAllocatedMemorySupported() || !counter.isThreadAllocatedMemoryEnabled()) {
      System.out.println("this machine does not count what calls make: not looked at");
      return;
    }
    // The first run loads classes, which takes room that is not the calls'.
    askAll(new FuseBench(), CALLS);
    counter.getCurrentThreadAllocatedBytes();
    FuseBench x = new FuseBench();
    long before = counter.getCurrentThreadAllocatedBytes();
    askAll(x, CALLS);
    long taken = counter.getCurrentThreadAllocatedBytes() - before;
    hold(taken <= MOST_BYTES, "calls make no object: they took bytes " + taken);
  }

  public static void main(String[] args) throws IllegalAccessException {
    FuseBench x = new FuseBench();
    lookAtObject(x, "a new object");
    askAll(x, CALLS);
    lookAtObject(x, "after " + CALLS + " calls");
    lookAtCalls();
    System.out.println(wrong == 0 ? "the room is kept to" : wrong + " things are not as due");
    if (wrong != 0) {
      System.exit(1);
    }
  }
}
