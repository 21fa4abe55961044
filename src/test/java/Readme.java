import java.lang.reflect.Method;
import java.lang.reflect.Modifier;
import java.nio.file.Files;
import java.nio.file.Path;
import java.util.HashMap;
import java.util.List;
import java.util.Map;
import java.util.TreeSet;
import java.util.regex.Matcher;
import java.util.regex.Pattern;

/** The examples of README.md: each answers what it says there, and no call of the face is without one. */
public final class Readme {
  private static final Pattern MADE = Pattern.compile("HotelSilver silver = new HotelSilver\\(\\);");
  private static final Pattern CALL =
      Pattern.compile("(?:int (\\w+) = )?silver\\.(\\w+)\\(([^()]*)\\); +// (-?\\d+)(:.*)?");
  private static final Map<String, Method> FACE = new HashMap<>();
  private static final TreeSet<String> called = new TreeSet<>();
  private static HotelSilver silver = null;
  private static final Map<String, Integer> names = new HashMap<>();
  private static int asked = 0, wrong = 0;

  private static void fault(String line, String what) {
    wrong++;
    System.out.println(line + ": " + what);
  }

  private static Object value(String word) {
    if (word.equals("true") || word.equals("false")) return Boolean.valueOf(word);
    return names.containsKey(word) ? names.get(word) : Integer.valueOf(word);
  }

  private static void example(String line) throws ReflectiveOperationException {
    if (MADE.matcher(line).matches()) {
      silver = new HotelSilver();
      names.clear();
      return;
    }
    Matcher m = CALL.matcher(line);
    if (!m.matches() || !FACE.containsKey(m.group(2))) {
      fault(line, "is no example");
      return;
    }
    String[] words = m.group(3).isEmpty() ? new String[0] : m.group(3).split(", ");
    Object[] values = new Object[words.length];
    for (int i = 0; i < words.length; i++) values[i] = value(words[i]);
    int got = (Integer) FACE.get(m.group(2)).invoke(silver, values);
    asked++;
    called.add(m.group(2));
    if (m.group(1) != null) names.put(m.group(1), got);
    if (got != Integer.parseInt(m.group(4))) fault(line, "answered " + got);
  }

  public static void main(String[] args) throws Exception {
    for (Method m : HotelSilver.class.getDeclaredMethods())
      if (Modifier.isPublic(m.getModifiers())) FACE.put(m.getName(), m);
    List<String> lines = Files.readAllLines(Path.of("README.md"));
    boolean inside = false;
    for (String line : lines) {
      if (line.startsWith("```")) inside = line.equals("```java");
      else if (inside) example(line);
    }
    for (String name : FACE.keySet()) if (!called.contains(name)) fault(name, "has no example");
    System.out.println(wrong == 0 ? "all " + asked + " examples hold" : wrong + " examples do not hold");
    if (wrong != 0) System.exit(1);
  }
}
