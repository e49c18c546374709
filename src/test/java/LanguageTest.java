import java.io.IOException;
import java.lang.reflect.Constructor;
import java.lang.reflect.Field;
import java.lang.reflect.Method;
import java.lang.reflect.Modifier;
import java.nio.charset.StandardCharsets;
import java.nio.file.Files;
import java.nio.file.Path;
import java.util.ArrayList;
import java.util.Arrays;
import java.util.List;
import java.util.TreeSet;
import java.util.regex.Matcher;
import java.util.regex.Pattern;

/** The rules of LANGUAGE.md that can be seen from the source and the class; .ci/run stands in the project's folder. */
public final class LanguageTest {
  private static final int MOST_LINES = 60;
  private static final int MOST_PARAMETERS = 7;
  private static final int MOST_CLASSES = 12;
  private static final int MOST_FIELDS = 20;
  private static int wrong = 0;

  private LanguageTest() { }

  private static void fail(int rule, String what) {
    wrong++;
    System.out.println("rule " + rule + ": " + what);
  }

  public static void main(String[] args) throws IOException {
    String source = Files.readString(Path.of("src/main/java/RowAuditor.java"), StandardCharsets.UTF_8);
    String code = withoutComments(source);
    words(code);
    signs(source);
    library(code);
    face();
    for (Class<?> nested : allClasses()) {
      fields(nested);
      methods(nested);
    }
    lengths(code);
    if (allClasses().size() > MOST_CLASSES) {
      fail(11, allClasses().size() + " classes");
    }
    System.out.println(wrong + " faults of language");
    if (wrong != 0) {
      System.exit(1);
    }
  }

  private static String withoutComments(String source) {
    String code = Pattern.compile("/\\*.*?\\*/", Pattern.DOTALL).matcher(source).replaceAll("");
    return code.replaceAll("//[^\n]*", "");
  }

  private static void words(String code) {
    String[] forbidden = {"throw", "try", "catch", "synchronized", "assert", "throws", "package", "volatile",
      "transient", "native", "protected", "yield", "sealed", "instanceof Object", "hashCode", "toString", "Exact"};
    for (String word : forbidden) {
      if (Pattern.compile("\\b" + word + "\\b").matcher(code).find()) {
        fail(6, word);
      }
    }
    if (code.contains("->") || code.contains("::")) {
      fail(2, "a lambda or a method reference");
    }
    if (Pattern.compile("\\b(double|float|Object|Map|Set|Stream|Optional|Random|Thread|System\\.(?!arraycopy))\\b")
        .matcher(code).find()) {
      fail(3, "a type or a name that is not in use here");
    }
    if (Pattern.compile("while \\(true\\)|for \\(;;\\)").matcher(code).find()) {
      fail(9, "a loop without an end");
    }
    if (Pattern.compile("static \\{").matcher(code).find()) {
      fail(5, "a static initialiser");
    }
  }

  private static void signs(String source) {
    for (int k = 0; k < source.length(); k++) {
      if (source.charAt(k) > 126) {
        fail(4, "sign " + (int) source.charAt(k));
      }
    }
  }

  private static void library(String code) {
    List<String> imports = new ArrayList<>();
    Matcher m = Pattern.compile("import ([^;]+);").matcher(code);
    while (m.find()) {
      imports.add(m.group(1));
    }
    List<String> allowed = List.of("java.util.ArrayList", "java.util.Arrays", "java.util.List");
    if (!allowed.containsAll(imports)) {
      fail(4, "imports " + imports);
    }
    m = Pattern.compile("\\b(Arrays|Math|Integer|System|Long|String)\\.(\\w+)").matcher(code);
    List<String> known = List.of("Arrays.fill", "Arrays.copyOf", "Math.min", "Math.max", "Math.abs",
        "Integer.bitCount", "System.arraycopy");
    while (m.find()) {
      if (!known.contains(m.group())) {
        fail(4, m.group());
      }
    }
  }

  private static List<Class<?>> allClasses() {
    List<Class<?>> list = new ArrayList<>();
    list.add(RowAuditor.class);
    list.addAll(Arrays.asList(RowAuditor.class.getDeclaredClasses()));
    return list;
  }

  private static void face() {
    String[] due = {
      "boolean now(int)", "int house(int)", "int row(int,int,int,int,int,int,int,int,int)", "boolean mend(int,int)",
      "int known(int,int,int)", "int holds(int,int,int)", "int feed(int,int,int,int,int)", "int rule(int,int,int)",
      "int broken(int,int)", "boolean clear(int,int)", "int findings(int)", "int finding(int,int)",
      "int parted(int,int)", "int followed(int,int,boolean)", "int rounds(int,int)", "int chain(int)",
      "int fits(int,int,int)", "int fitted(int,int,int,int)", "long ways(int,int,int,int)",
      "int odd(int,int,int,int)", "boolean things(int,boolean,int)", "int behind(int,boolean,int,boolean)",
      "int grown(int)", "int sample(int,int,int)", "int ask(int,int,int)", "boolean answer(int,int)",
      "int asked(int)", "int ifFalse(int)", "boolean putIn(int)", "int found(int)", "int reading(int,int,int)",
      "int best(int)", "int judge(int)", "int look(int,int)", "int count(int)",
    };
    TreeSet<String> got = new TreeSet<>();
    for (Method m : RowAuditor.class.getDeclaredMethods()) {
      if (Modifier.isPublic(m.getModifiers())) {
        got.add(m.toGenericString().replace("public ", "").replace("RowAuditor.", ""));
      } else if (!Modifier.isPrivate(m.getModifiers()) && !m.isSynthetic()) {
        fail(1, m + " is neither public nor private");
      }
    }
    if (!got.equals(new TreeSet<>(Arrays.asList(due)))) {
      fail(1, "the face is " + got);
    }
    for (Field f : RowAuditor.class.getDeclaredFields()) {
      if (Modifier.isPublic(f.getModifiers()) != f.getName().equals("NONE")) {
        fail(1, "field " + f);
      }
      if (!Modifier.isPublic(f.getModifiers()) && !Modifier.isPrivate(f.getModifiers())) {
        fail(1, "field " + f);
      }
    }
    for (Constructor<?> c : RowAuditor.class.getDeclaredConstructors()) {
      if (!Modifier.isPublic(c.getModifiers()) || c.getParameterCount() != 0) {
        fail(1, "constructor " + c);
      }
    }
    if (!Modifier.isFinal(RowAuditor.class.getModifiers())) {
      fail(1, "the class is not final");
    }
  }

  private static void fields(Class<?> owner) {
    int size = 0;
    for (Field f : owner.getDeclaredFields()) {
      boolean isStatic = Modifier.isStatic(f.getModifiers());
      size += isStatic ? 0 : 1;
      boolean isConstant = f.getType().isPrimitive() || f.getType() == String.class;
      if (isStatic && !(Modifier.isFinal(f.getModifiers()) && isConstant)) {
        fail(5, "field " + f);
      }
    }
    if (size > MOST_FIELDS) {
      fail(11, owner + " has " + size + " fields");
    }
    if (owner != RowAuditor.class && !Modifier.isStatic(owner.getModifiers())) {
      fail(2, owner + " is not static");
    }
  }

  private static void methods(Class<?> owner) {
    TreeSet<String> open = new TreeSet<>();
    for (Method m : RowAuditor.class.getDeclaredMethods()) {
      if (Modifier.isPublic(m.getModifiers())) {
        open.add(m.getName());
      }
    }
    for (Method m : owner.getDeclaredMethods()) {
      boolean isFace = owner == RowAuditor.class && Modifier.isPublic(m.getModifiers());
      if (!isFace && m.getParameterCount() > MOST_PARAMETERS) {
        fail(11, m + " has too many parameters");
      }
      if (!isFace && open.contains(m.getName())) {
        fail(1, m + " bears the name of a public one");
      }
    }
  }

  private static void lengths(String code) {
    String[] lines = code.split("\n", -1);
    Pattern head = Pattern.compile("^(    |        )[A-Za-z][^=;]*\\(.*\\) \\{$");
    for (int k = 0; k < lines.length; k++) {
      Matcher m = head.matcher(lines[k]);
      if (m.matches()) {
        int end = k;
        while (end < lines.length && !lines[end].equals(m.group(1) + "}")) {
          end++;
        }
        if (end - k + 1 > MOST_LINES) {
          fail(11, (end - k + 1) + " lines: " + lines[k].trim());
        }
      }
    }
  }
}
