import java.lang.reflect.Constructor;
import java.lang.reflect.Executable;
import java.lang.reflect.Field;
import java.lang.reflect.Method;
import java.lang.reflect.Modifier;
import java.nio.file.Files;
import java.nio.file.Path;
import java.util.ArrayList;
import java.util.List;
import java.util.Set;
import java.util.TreeSet;
import java.util.regex.Matcher;
import java.util.regex.Pattern;
import java.util.stream.Collectors;
import java.util.stream.Stream;

/** The class has the document's face and no other, and its source keeps to the rules that can be seen in it. */
public final class FaceTest {
  private static int wrong = 0;

  private FaceTest() {}

  public static void main(String[] args) throws Exception {
    face();
    insideClasses();
    source();
    System.out.println("FaceTest: " + wrong + " wrong");
    if (wrong != 0) System.exit(1);
  }

  private static void wrong(String what) {
    wrong++;
    System.out.println(what);
  }

  private static void face() throws Exception {
    String doc = Files.readString(Path.of("../shared/DOC.md"));
    String told = doc.substring(doc.indexOf("```java") + 7, doc.indexOf("```", doc.indexOf("```java") + 7));
    Set<String> due = new TreeSet<>(), has = new TreeSet<>();
    Matcher call = Pattern.compile("public (\\w+) (\\w+)\\((.*?)\\);").matcher(told);
    while (call.find()) due.add(call.group(1) + " " + call.group(2) + "(" + call.group(3).replaceAll(" \\w+(,|$)", "$1") + ")");
    Set<String> names = new TreeSet<>();
    for (Method m : BesideTom.class.getDeclaredMethods()) {
      if (Modifier.isPrivate(m.getModifiers())) continue;
      if (!Modifier.isPublic(m.getModifiers())) wrong("not private: " + m);
      names.add(m.getName());
      has.add(m.getReturnType() + " " + m.getName() + "("
          + Stream.of(m.getParameterTypes()).map(Class::getName).collect(Collectors.joining(", ")) + ")");
    }
    if (due.size() != 37 || !due.equals(has)) wrong("the face is " + has + ", due is " + due);
    for (Class<?> inside : BesideTom.class.getDeclaredClasses()) {
      for (Method m : inside.getDeclaredMethods()) if (names.contains(m.getName())) wrong("a public name: " + m);
    }
    for (Method m : BesideTom.class.getDeclaredMethods()) {
      if (Modifier.isPrivate(m.getModifiers()) && names.contains(m.getName())) wrong("a public name: " + m);
    }
    Set<String> constants = new TreeSet<>();
    for (Field f : BesideTom.class.getDeclaredFields()) {
      if (Modifier.isStatic(f.getModifiers()) && !Modifier.isFinal(f.getModifiers())) wrong("not final: " + f);
      if (!Modifier.isPrivate(f.getModifiers())) constants.add(f.getName());
    }
    if (!constants.toString().equals("[BAD, FULL, NO, NONE, STATE]")) wrong("constants " + constants);
    Constructor<?>[] made = BesideTom.class.getDeclaredConstructors();
    if (made.length != 1 || !Modifier.isPublic(made[0].getModifiers()) || made[0].getParameterCount() != 0) wrong("constructor");
    if (!Modifier.isFinal(BesideTom.class.getModifiers())) wrong("the class is not final");
  }

  private static void insideClasses() {
    List<Class<?>> all = new ArrayList<>(List.of(BesideTom.class.getDeclaredClasses()));
    if (all.size() + 1 > 12) wrong("classes: " + (all.size() + 1));
    for (Class<?> inside : all) {
      if (!Modifier.isStatic(inside.getModifiers())) wrong("not static: " + inside);
      if (Modifier.isPublic(inside.getModifiers()) || Modifier.isProtected(inside.getModifiers())) wrong("public: " + inside);
    }
    all.add(BesideTom.class);
    for (Class<?> one : all) {
      long fields = Stream.of(one.getDeclaredFields()).filter(f -> !Modifier.isStatic(f.getModifiers())).count();
      if (fields > 20) wrong("fields of " + one + ": " + fields);
      List<Executable> calls = new ArrayList<>(List.of(one.getDeclaredMethods()));
      for (Executable e : calls) if (e.getParameterCount() > 7) wrong("parameters: " + e);
    }
  }

  private static void source() throws Exception {
    String text = Files.readString(Path.of("src/main/java/BesideTom.java"));
    if (!text.chars().allMatch(c -> c == '\n' || c >= 32 && c < 127)) wrong("a sign that is none of 32 to 126");
    String code = text.replaceAll("(?s)/\\*.*?\\*/", "").replaceAll("//[^\n]*", "").replaceAll("\"[^\"]*\"", "\"\"");
    String[] ruledOut = {"throw", "throws", "try", "catch", "finally", "synchronized", "assert", "import", "package",
      "double", "float", "var", "record", "enum", "Object", "Thread", "native", "transient", "volatile", "equals",
      "hashCode", "toString", "goto", "yield"};
    for (String word : ruledOut) {
      if (Pattern.compile("\\b" + word + "\\b").matcher(code).find()) wrong("ruled out: " + word);
    }
    if (code.contains("->") || code.contains("::")) wrong("ruled out: a lambda or a method reference");
    Set<String> library = new TreeSet<>();
    Matcher call = Pattern.compile("\\b(Math|Integer|Long|System|Arrays)\\.(\\w+)").matcher(code);
    while (call.find()) library.add(call.group());
    Set<String> fine = Set.of("Math.max", "Math.min", "Integer.bitCount", "Long.MIN_VALUE", "System.arraycopy");
    library.removeAll(fine);
    if (!library.isEmpty()) wrong("of the library: " + library);
    int length = 0;
    for (String line : text.split("\n")) {
      if (line.length() > 120) wrong("a long line: " + line);
      length = line.matches("  (  )?[a-zA-Z].*\\{") ? 0 : length + 1;
      if (line.matches("  (  )?\\}") && length > 60) wrong("a long method ends at: " + line);
    }
  }
}
