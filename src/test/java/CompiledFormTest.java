import java.io.IOException;
import java.lang.reflect.Constructor;
import java.lang.reflect.Executable;
import java.lang.reflect.Field;
import java.lang.reflect.Method;
import java.net.URISyntaxException;
import java.nio.file.Files;
import java.nio.file.Path;
import java.util.ArrayList;
import java.util.Arrays;
import java.util.HashMap;
import java.util.HashSet;
import java.util.List;
import java.util.Map;
import java.util.Set;
import java.util.TreeSet;
import java.util.stream.Stream;

/** The rules of LANGUAGE.md that can be seen from the compiled classes, sign by sign. */
public final class CompiledFormTest {
  private static final int MOST_DEEP = 8;
  private static final Set<String> LIBRARY = Set.of(
      "java/lang/Object.<init>()V", "java/lang/String.indexOf(I)I",
      "java/lang/Math.min(II)I", "java/lang/Math.max(II)I", "java/lang/Math.abs(I)I",
      "java/lang/Integer.bitCount(I)I", "java/lang/System.arraycopy(Ljava/lang/Object;ILjava/lang/Object;II)V",
      "java/util/Arrays.fill([II)V", "java/util/Arrays.copyOf([II)[I",
      "java/util/ArrayList.<init>()V", "java/util/ArrayList.add(Ljava/lang/Object;)Z",
      "java/util/ArrayList.get(I)Ljava/lang/Object;", "java/util/ArrayList.size()I");
  private static final Set<String> TYPES = Set.of("int", "long", "boolean", "void", "int[]", "long[]", "boolean[]",
      "java.lang.String", "java.util.ArrayList");
  /** The methods that call themselves or one another; each is held by a depth or by the STEPS of a CHAIN. */
  private static final Set<String> RECURSIONS = Set.of("[condition, part, piece]", "[factor, sum, term]",
      "[countFrom]");
  private static int wrong = 0;

  private CompiledFormTest() { }

  private static void fail(int rule, String what) {
    wrong++;
    System.out.println("rule " + rule + ": " + what);
  }

  public static void main(String[] args) throws IOException, URISyntaxException {
    List<Class<?>> classes = new ArrayList<>();
    classes.add(RowAuditor.class);
    classes.addAll(Arrays.asList(RowAuditor.class.getDeclaredClasses()));
    allAreNamed(classes);
    Map<String, TreeSet<String>> calls = new HashMap<>();
    for (Class<?> type : classes) {
      ClassFile file = new ClassFile(type);
      operations(file);
      library(file);
      types(type);
      calls.putAll(file.calls);
    }
    depth(calls);
    System.out.println(wrong + " faults of form in " + calls.size() + " methods");
    if (wrong != 0) {
      System.exit(1);
    }
  }

  /** Local, anonymous and hidden classes have a file, too, but are none of those declared. */
  private static void allAreNamed(List<Class<?>> classes) throws IOException, URISyntaxException {
    TreeSet<String> declared = new TreeSet<>();
    for (Class<?> type : classes) {
      declared.add(type.getName() + ".class");
    }
    Path folder = Path.of(RowAuditor.class.getProtectionDomain().getCodeSource().getLocation().toURI());
    try (Stream<Path> files = Files.list(folder)) {
      for (Path file : files.toList()) {
        String name = file.getFileName().toString();
        if (name.startsWith("RowAuditor") && !declared.contains(name)) {
          fail(2, name + " is a class without a name of its own");
        }
      }
    }
  }

  private static void operations(ClassFile file) {
    if (file.operations.contains(ClassFile.DYNAMIC)) {
      fail(6, file.name + " joins texts with + or has a lambda");
    }
    if (file.operations.contains(ClassFile.THROW) || file.caught > 0) {
      fail(6, file.name + " throws or catches");
    }
    if (file.operations.contains(ClassFile.ENTER) || file.operations.contains(ClassFile.EXIT)) {
      fail(6, file.name + " is synchronized");
    }
  }

  private static void library(ClassFile file) {
    for (String method : file.called()) {
      if (!method.startsWith("RowAuditor") && !LIBRARY.contains(method)) {
        fail(4, file.name + " calls " + method);
      }
    }
  }

  private static void types(Class<?> type) {
    for (Field f : type.getDeclaredFields()) {
      type(f.getType(), f.toString());
    }
    for (Method m : type.getDeclaredMethods()) {
      type(m.getReturnType(), m.toString());
      parameters(m);
    }
    for (Constructor<?> c : type.getDeclaredConstructors()) {
      parameters(c);
    }
  }

  private static void parameters(Executable e) {
    for (Class<?> parameter : e.getParameterTypes()) {
      type(parameter, e.toString());
    }
  }

  private static void type(Class<?> type, String where) {
    boolean isOwn = type.getNestHost() == RowAuditor.class;
    if (!isOwn && !TYPES.contains(type.getTypeName())) {
      fail(3, type.getTypeName() + " in " + where);
    }
  }

  /** Calls that are no recursion; those that call one another count once. */
  private static void depth(Map<String, TreeSet<String>> calls) {
    Map<String, Set<String>> reached = new HashMap<>();
    for (String method : calls.keySet()) {
      reached.put(method, reachedFrom(method, calls));
    }
    Map<String, Integer> depths = new HashMap<>();
    for (String method : calls.keySet()) {
      TreeSet<String> group = groupOf(method, reached);
      if (!group.isEmpty() && !RECURSIONS.contains(group.toString())) {
        fail(8, "a recursion of " + group);
      }
      int deep = depthOf(method, calls, reached, depths);
      if (deep > MOST_DEEP) {
        fail(11, method + " goes " + deep + " calls deep");
      }
    }
  }

  private static Set<String> reachedFrom(String method, Map<String, TreeSet<String>> calls) {
    Set<String> reached = new HashSet<>();
    List<String> open = new ArrayList<>(List.of(method));
    while (!open.isEmpty()) {
      for (String next : calls.getOrDefault(open.remove(open.size() - 1), new TreeSet<>())) {
        if (reached.add(next)) {
          open.add(next);
        }
      }
    }
    return reached;
  }

  private static boolean areOne(String a, String b, Map<String, Set<String>> reached) {
    return reached.containsKey(a) && reached.containsKey(b) && reached.get(a).contains(b) && reached.get(b).contains(a);
  }

  private static TreeSet<String> groupOf(String method, Map<String, Set<String>> reached) {
    TreeSet<String> group = new TreeSet<>();
    for (String other : reached.keySet()) {
      if (areOne(method, other, reached)) {
        group.add(other.substring(other.indexOf('.') + 1, other.indexOf('(')));
      }
    }
    return group;
  }

  private static int depthOf(String method, Map<String, TreeSet<String>> calls, Map<String, Set<String>> reached,
      Map<String, Integer> depths) {
    if (!depths.containsKey(method)) {
      int deepest = 0;
      for (String member : calls.keySet()) {
        if (member.equals(method) || areOne(method, member, reached)) {
          for (String next : calls.get(member)) {
            if (!areOne(method, next, reached)) {
              deepest = Math.max(deepest, depthOf(next, calls, reached, depths));
            }
          }
        }
      }
      depths.put(method, deepest + 1);
    }
    return depths.get(method);
  }
}
