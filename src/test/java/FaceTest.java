import java.io.IOException;
import java.lang.reflect.Constructor;
import java.lang.reflect.Field;
import java.lang.reflect.Method;
import java.lang.reflect.Modifier;
import java.nio.file.Files;
import java.nio.file.Path;
import java.util.Arrays;
import java.util.Set;
import java.util.TreeSet;
import java.util.regex.Matcher;
import java.util.regex.Pattern;

/** The public face is the document's, and the source stays clear of what LANGUAGE.md rules out. */
public final class FaceTest {
  private static final Set<String> METHODS = new TreeSet<>(Arrays.asList(
      "int rank(int, int)", "int put(int, int, int, int, int)", "int at(int, int, int, int)",
      "int fault(int, int)", "int partner(int, int)", "int copy(int, int)", "int group(int, int)",
      "int near(int, int, int)", "int together(int, int, int)", "int list(int, int, int)",
      "int take(int, int, int, int, int)", "int letter(int)", "int empty()",
      "long fused(int, int)", "long ways(int, int, int, int, int)", "int closed(int, int)",
      "int least(int, int)", "int core(int)", "int grade(int, int)", "int within(int)",
      "int like(int, int)", "int maps(int, int)", "int map(int, int, int, int)",
      "int size(int)", "long digest()"));
  private static final Set<String> CONSTANTS = new TreeSet<>(Arrays.asList("NONE", "BAD", "NO"));
  private static final String[] RULED_OUT = {
      "\\bthrows?\\b", "\\btry\\b", "\\bcatch\\b", "\\bsynchronized\\b", "\\bassert\\b", "->", "::",
      "\\w+Exact\\b", "\\bpackage\\b", "\\bvar\\b", "\\bObject\\b", "\\bdouble\\b", "\\bfloat\\b",
      "\\bimport (?!java\\.util\\.Arrays;)", "\\bstatic \\{", "\\bequals\\b", "\\bhashCode\\b",
      "\\btoString\\b", "[^\\x00-\\xff]"};
  // Of what LANGUAGE.md leaves, that which makes no new array: no call may make one.
  private static final Set<String> LIBRARY = new TreeSet<>(Arrays.asList(
      "Arrays.fill", "System.arraycopy", "Math.max", "Math.min", "Math.abs", "Integer.bitCount"));
  private static final Pattern LIBRARY_CALL =
      Pattern.compile("\\b(Arrays|System|Math|Integer|Long|String|Runtime|Thread|Character)\\.\\w+");
  private static final Pattern METHOD_HEAD = Pattern.compile("( +)[\\w\\[\\] ]+\\([^;=]*\\{");
  private static final int LONGEST_METHOD = 60;

  private static int wrong = 0;

  private static void hold(boolean holds, String what) {
    if (!holds) {
      wrong++;
      System.out.println("not so: " + what);
    }
  }

  private static String told(Method m) {
    String[] types = Arrays.stream(m.getParameterTypes()).map(Class::getName).toArray(String[]::new);
    return m.getReturnType().getName() + " " + m.getName() + "(" + String.join(", ", types) + ")";
  }

  private static void lookAtMembers() {
    Class<?> face = FuseBench.class;
    hold(Modifier.isPublic(face.getModifiers()) && Modifier.isFinal(face.getModifiers()),
        "the class is public and final");
    hold(face.getSuperclass() == Object.class && face.getInterfaces().length == 0,
        "the class stands alone");
    Set<String> open = new TreeSet<>();
    Set<String> openNames = new TreeSet<>();
    for (Method m : face.getDeclaredMethods()) {
      if (!Modifier.isPrivate(m.getModifiers()) && !m.isSynthetic()) {
        hold(Modifier.isPublic(m.getModifiers()) && !Modifier.isStatic(m.getModifiers()), told(m));
        open.add(told(m));
        openNames.add(m.getName());
      }
    }
    hold(open.equals(METHODS), "the methods are the document's: " + open);
    lookAtNames(face, openNames);
    Set<String> fields = new TreeSet<>();
    for (Field f : face.getDeclaredFields()) {
      hold(!Modifier.isStatic(f.getModifiers()) || Modifier.isFinal(f.getModifiers()),
          f.getName() + " is final");
      if (!Modifier.isPrivate(f.getModifiers())) {
        hold(Modifier.isPublic(f.getModifiers()) && f.getType() == int.class, f.getName());
        fields.add(f.getName());
      }
    }
    hold(fields.equals(CONSTANTS), "the constants are the document's: " + fields);
    Constructor<?>[] made = face.getDeclaredConstructors();
    hold(made.length == 1 && made[0].getParameterCount() == 0
        && Modifier.isPublic(made[0].getModifiers()), "one public constructor without arguments");
  }

  private static void lookAtNames(Class<?> face, Set<String> openNames) {
    for (Method m : face.getDeclaredMethods()) {
      hold(!Modifier.isPrivate(m.getModifiers()) || !openNames.contains(m.getName()),
          "no private method has the name " + m.getName());
    }
    hold(face.getDeclaredClasses().length < 12, "some twelve classes at most");
    for (Class<?> inside : face.getDeclaredClasses()) {
      hold(Modifier.isStatic(inside.getModifiers()) && !Modifier.isPublic(inside.getModifiers())
          && !Modifier.isProtected(inside.getModifiers()), inside + " is static and not public");
      hold(inside.getDeclaredFields().length <= 20, inside + " has few fields");
      lookAtStatics(inside);
      for (Method m : inside.getDeclaredMethods()) {
        hold(!openNames.contains(m.getName()), inside + " has no method named " + m.getName());
        hold(m.getParameterCount() <= 7, m + " has at most seven parameters");
      }
    }
  }

  private static void lookAtStatics(Class<?> inside) {
    for (Field f : inside.getDeclaredFields()) {
      boolean constant = Modifier.isFinal(f.getModifiers())
          && (f.getType() == int.class || f.getType() == long.class);
      hold(!Modifier.isStatic(f.getModifiers()) || constant, f + " is a constant");
    }
    hold(inside.isEnum() || inside.isInterface() || Modifier.isFinal(inside.getModifiers()),
        inside + " has no method that could be overridden");
  }

  private static void lookAtLibrary(String code) {
    Matcher call = LIBRARY_CALL.matcher(code);
    while (call.find()) {
      hold(LIBRARY.contains(call.group()), "LANGUAGE.md leaves this of the library: " + call.group());
    }
  }

  /** A method ends where a brace stands as far in as its head does. */
  private static void lookAtLengths(String[] lines) {
    int methods = 0;
    for (int at = 0; at < lines.length; at++) {
      Matcher head = METHOD_HEAD.matcher(lines[at]);
      if (head.matches() && !lines[at].matches(" *(for|if|while|switch|\\} else).*")) {
        int end = at + 1;
        while (end < lines.length && !lines[end].equals(head.group(1) + "}")) {
          end++;
        }
        methods++;
        hold(end - at <= LONGEST_METHOD, "a short method: " + lines[at].trim());
      }
    }
    hold(methods > METHODS.size(), "methods are found in the source: " + methods);
  }

  private static void lookAtSource() throws IOException {
    String source = Files.readString(Path.of("src/main/java/FuseBench.java"));
    String code = source.replaceAll("(?s)/\\*.*?\\*/", "").replaceAll("//[^\n]*", "");
    for (String ruledOut : RULED_OUT) {
      Matcher found = Pattern.compile(ruledOut).matcher(code);
      hold(!found.find(), "the source is clear of " + ruledOut);
    }
    lookAtLibrary(code);
    lookAtLengths(code.split("\n"));
    for (String line : code.split("\n")) {
      // Nothing is made by a call: all rows are fields, made with the object.
      boolean made = line.contains(" new ");
      hold(!made || line.contains(" final ") || line.contains("tables[t] = new Table()"),
          "made with the object: " + line.trim());
    }
  }

  public static void main(String[] args) throws IOException {
    lookAtMembers();
    lookAtSource();
    System.out.println(wrong == 0 ? "the face is as due" : wrong + " things are not as due");
    if (wrong != 0) {
      System.exit(1);
    }
  }
}
