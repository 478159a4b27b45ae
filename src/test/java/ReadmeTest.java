import java.lang.reflect.Method;
import java.nio.file.Files;
import java.nio.file.Path;
import java.util.ArrayList;
import java.util.List;
import java.util.regex.Matcher;
import java.util.regex.Pattern;
import java.util.stream.Collectors;
import java.util.stream.Stream;

/** What README.md says is so: its examples answer as told, and it names every call and every test. */
public final class ReadmeTest {
  private static final Pattern NEW = Pattern.compile("BesideTom x = new BesideTom\\(\\);");
  private static final Pattern FED = Pattern.compile("for \\(char sign : \"(.*)\"\\.toCharArray\\(\\)\\) x\\.feed\\(sign\\);");
  private static final Pattern ASKED = Pattern.compile("x\\.(\\w+)\\(([-0-9, ]*)\\); +// (-?[0-9]+)(:.*)?");

  private static BesideTom x = null;
  private static int answers = 0, wrong = 0;

  private ReadmeTest() {}

  public static void main(String[] args) throws Exception {
    String page = Files.readString(Path.of("README.md"));
    List<String> examples = examples(page);
    if (examples.isEmpty()) wrong("no example");
    for (String example : examples) {
      for (String line : example.strip().split("\n")) does(line);
    }
    names(page);
    System.out.println("ReadmeTest: " + examples.size() + " examples, " + answers + " answers, " + wrong + " wrong");
    if (wrong != 0) System.exit(1);
  }

  private static void wrong(String what) {
    wrong++;
    System.out.println(what);
  }

  private static List<String> examples(String page) {
    List<String> found = new ArrayList<>();
    Matcher block = Pattern.compile("(?s)```java\n(.*?)```").matcher(page);
    while (block.find()) found.add(block.group(1));
    return found;
  }

  private static void does(String line) throws Exception {
    Matcher fed = FED.matcher(line), asked = ASKED.matcher(line);
    if (NEW.matcher(line).matches()) {
      x = new BesideTom();
    } else if (fed.matches()) {
      for (char sign : fed.group(1).toCharArray()) x.feed(sign);
    } else if (asked.matches()) {
      answers++;
      long got = answer(asked.group(1), asked.group(2).isEmpty() ? new String[0] : asked.group(2).split(", "));
      if (got != Long.parseLong(asked.group(3))) wrong("answered " + got + ": " + line);
    } else {
      wrong("not understood: " + line);
    }
  }

  private static long answer(String name, String[] args) throws Exception {
    for (Method m : BesideTom.class.getMethods()) {
      if (!m.getName().equals(name) || m.getParameterCount() != args.length) continue;
      Object[] given = new Object[args.length];
      for (int i = 0; i < args.length; i++) {
        given[i] = m.getParameterTypes()[i] == long.class ? (Object) Long.valueOf(args[i]) : Integer.valueOf(args[i]);
      }
      return ((Number) m.invoke(x, given)).longValue();
    }
    throw new IllegalStateException(name);
  }

  private static void names(String page) throws Exception {
    for (Method m : BesideTom.class.getDeclaredMethods()) {
      boolean shown = page.contains("`" + m.getName() + "(");
      if (java.lang.reflect.Modifier.isPublic(m.getModifiers()) && !shown) wrong("not in README.md: " + m);
    }
    try (Stream<Path> files = Files.list(Path.of("src/test/java"))) {
      for (Path file : files.collect(Collectors.toList())) {
        String name = file.getFileName().toString().replace(".java", "");
        if (name.endsWith("Test") && !page.contains("`" + name + "`")) wrong("not in README.md: " + name);
      }
    }
  }
}
