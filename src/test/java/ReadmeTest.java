import java.io.File;
import java.io.IOException;
import java.lang.reflect.Method;
import java.lang.reflect.Modifier;
import java.nio.file.Files;
import java.nio.file.Path;
import java.util.ArrayList;
import java.util.Arrays;
import java.util.List;
import java.util.Set;
import java.util.TreeSet;
import java.util.regex.Matcher;
import java.util.regex.Pattern;

/** What README.md says is so: its calls answer as it tells, and it leaves no call and no test out. */
public final class ReadmeTest {
  private static final Pattern EXAMPLE = Pattern.compile("x\\.(\\w+)\\(([^)]*)\\); +// (-?\\d+): .*");
  private static final Pattern CALL_ROW = Pattern.compile("\\| `(\\w+)\\(([^)]*)\\)` \\| .+ \\|");
  private static final Pattern TEST_ROW = Pattern.compile("- `(\\w+Test)`: .*");

  private static int wrong = 0;

  private static void hold(boolean holds, String what) {
    if (!holds) {
      wrong++;
      System.out.println("not so: " + what);
    }
  }

  /** The lines between the first mark and the next line that ends the block. */
  private static List<String> exampleLines(List<String> readme) {
    int from = readme.indexOf("```java") + 1;
    int length = readme.subList(from, readme.size()).indexOf("```");
    return from == 0 || length < 0 ? new ArrayList<>() : readme.subList(from, from + length);
  }

  private static int[] numbersIn(String told) {
    return told.isEmpty() ? new int[0]
        : Arrays.stream(told.split(", ")).mapToInt(Integer::parseInt).toArray();
  }

  private static Method method(String name) {
    for (Method m : FuseBench.class.getDeclaredMethods()) {
      if (Modifier.isPublic(m.getModifiers()) && m.getName().equals(name)) {
        return m;
      }
    }
    throw new IllegalStateException("no call " + name);
  }

  private static void lookAtExample(List<String> readme) throws ReflectiveOperationException {
    List<String> lines = exampleLines(readme);
    hold(lines.size() > 10 && lines.get(0).equals("FuseBench x = new FuseBench();"), "it has an example");
    FuseBench x = new FuseBench();
    for (String line : lines.subList(Math.min(1, lines.size()), lines.size())) {
      Matcher told = EXAMPLE.matcher(line);
      if (!told.matches()) {
        hold(false, "a call with its answer: " + line);
        continue;
      }
      Object[] numbers = Arrays.stream(numbersIn(told.group(2))).boxed().toArray();
      long got = ((Number) method(told.group(1)).invoke(x, numbers)).longValue();
      hold(got == Long.parseLong(told.group(3)), line + " (it answered " + got + ")");
    }
  }

  private static void lookAtCalls(List<String> readme) {
    Set<String> told = new TreeSet<>();
    for (String line : readme) {
      Matcher row = CALL_ROW.matcher(line);
      if (row.matches()) {
        int many = row.group(2).isEmpty() ? 0 : row.group(2).split(", ").length;
        hold(told.add(row.group(1) + " of " + many), "told once: " + line);
      }
    }
    Set<String> due = new TreeSet<>();
    for (Method m : FuseBench.class.getDeclaredMethods()) {
      if (Modifier.isPublic(m.getModifiers())) {
        due.add(m.getName() + " of " + m.getParameterCount());
      }
    }
    hold(told.equals(due), "the calls are " + due + ", told are " + told);
  }

  private static void lookAtTests(List<String> readme) {
    Set<String> told = new TreeSet<>();
    for (String line : readme) {
      Matcher row = TEST_ROW.matcher(line);
      if (row.matches()) {
        told.add(row.group(1) + ".java");
      }
    }
    String[] files = new File("src/test/java").list();
    Set<String> due = new TreeSet<>(files == null ? List.of() : Arrays.asList(files));
    hold(told.equals(due), "the tests are " + due + ", told are " + told);
    hold(new File(".ci/run").canExecute(), ".ci/run can be run");
  }

  public static void main(String[] args) throws IOException, ReflectiveOperationException {
    List<String> readme = Files.readAllLines(Path.of("README.md"));
    lookAtExample(readme);
    lookAtCalls(readme);
    lookAtTests(readme);
    System.out.println(wrong == 0 ? "README.md is so" : wrong + " things in README.md are not so");
    if (wrong != 0) {
      System.exit(1);
    }
  }
}
