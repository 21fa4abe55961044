import java.lang.reflect.Constructor;
import java.lang.reflect.Field;
import java.lang.reflect.Method;
import java.lang.reflect.Modifier;
import java.nio.file.Files;
import java.nio.file.Path;
import java.util.ArrayList;
import java.util.List;
import java.util.TreeSet;
import java.util.regex.Pattern;

/** The face of the document and those rules of LANGUAGE.md that can be seen from the file or the class. */
public final class Rules {
  private static final String FACE = "kind(int,int) book(int,int,int) weigh(int,int,int,int) drop(int) "
      + "sure(int,int,boolean) quarrel(int,int) tray(int,int,int,int) trayPair(int,int,int,int,int) "
      + "ledger(int,int,int,int) missing(int,int,boolean) worst() farness(int,int,int) event(int,int,int,int) "
      + "off(int) carried(int) inNeed(int) costs(int) lot(int,int,int) crew(int) plan(int) planned(int,int) "
      + "month(int) match(int,int,int) mark(boolean,int,int,int,int) clear() cost(int,int) join(boolean) "
      + "joined(int) certain(int) doubted(int,int,int,int) bound(int,int,int,boolean) broke(int,int,int) "
      + "told(int,int,int) count(int)";
  private static int wrong = 0;

  private static void must(boolean holds, String what) {
    if (!holds) {
      wrong++;
      System.out.println(what);
    }
  }

  private static String signed(Method m) {
    List<String> types = new ArrayList<>();
    for (Class<?> c : m.getParameterTypes()) types.add(c.getSimpleName());
    return m.getName() + "(" + String.join(",", types) + ")";
  }

  private static void face() {
    Class<HotelSilver> c = HotelSilver.class;
    must(Modifier.isFinal(c.getModifiers()) && Modifier.isPublic(c.getModifiers()), "the class is public and final");
    TreeSet<String> there = new TreeSet<>();
    for (Method m : c.getDeclaredMethods()) {
      if (Modifier.isPrivate(m.getModifiers())) continue;
      must(m.getReturnType() == int.class && m.getModifiers() == Modifier.PUBLIC, m + " is not of the face");
      there.add(signed(m));
    }
    must(there.equals(new TreeSet<>(List.of(FACE.split(" ")))), "the face has other methods: " + there);
    TreeSet<String> constants = new TreeSet<>();
    for (Field f : c.getDeclaredFields()) if (!Modifier.isPrivate(f.getModifiers())) constants.add(f.getName());
    must(constants.equals(new TreeSet<>(List.of("UNKNOWN", "OUTSIDE", "STATE", "FULL", "NONE"))), "constants: " + constants);
    for (Constructor<?> k : c.getDeclaredConstructors())
      must(k.getParameterCount() == 0 && k.getModifiers() == Modifier.PUBLIC, "constructor " + k);
  }

  private static void shapes() {
    TreeSet<String> face = new TreeSet<>();
    for (Method m : HotelSilver.class.getMethods()) face.add(m.getName());
    List<Class<?>> classes = new ArrayList<>(List.of(HotelSilver.class.getDeclaredClasses()));
    classes.add(HotelSilver.class);
    must(classes.size() <= 12, "more than twelve classes");
    for (Class<?> c : classes) {
      must(c == HotelSilver.class || Modifier.isStatic(c.getModifiers()), c + " is not static");
      int fields = 0;
      for (Field f : c.getDeclaredFields()) {
        if (Modifier.isStatic(f.getModifiers())) must(Modifier.isFinal(f.getModifiers()), f + " is not final");
        else fields++;
      }
      must(fields <= 20, c + " has more than twenty fields");
      for (Method m : c.getDeclaredMethods()) {
        must(m.getParameterCount() <= 7, m + " takes more than seven");
        must(Modifier.isPublic(m.getModifiers()) || !face.contains(m.getName()), m + " bears a public name");
      }
    }
  }

  private static void words(List<String> lines) {
    String[] never = {"throw", "throws", "try", "catch", "finally", "synchronized", "assert", "static \\{", "->", "::",
        "\\w+Exact", "hashCode", "toString", "equals", "Object", "System\\.(?!arraycopy)", "Thread", "Random", "package"};
    Pattern made = Pattern.compile("^ +(private final [\\w\\[\\]]+ \\w+ = new \\w+\\[.*\\];|[a-z]+ = new [A-Z]\\w+\\(\\);)$");
    for (int i = 0; i < lines.size(); i++) {
      String line = lines.get(i);
      String code = line.replaceFirst("^\\s*(/\\*\\*|\\*|//).*", "").replaceFirst(" // .*", "");
      for (String word : never) {
        String whole = Character.isLetter(word.charAt(0)) ? "\\b" + word + "\\b" : word;
        must(!Pattern.compile(whole).matcher(code).find(), "line " + (i + 1) + " has " + word);
      }
      must(!code.startsWith("import") || code.equals("import java.util.Arrays;"), "line " + (i + 1) + " imports");
      must(!code.contains("new ") || made.matcher(code).matches(), "line " + (i + 1) + " makes outside a constructor");
      must(line.chars().allMatch(ch -> ch < 128), "line " + (i + 1) + " has a strange sign");
    }
  }

  private static void lengths(List<String> lines) {
    int begin = -1;
    for (int i = 0; i < lines.size(); i++) {
      String line = lines.get(i);
      if (line.matches("^ {4,8}(public|private)[^=;]*\\(.*\\) \\{$")) begin = i;
      if (begin >= 0 && line.matches("^ {4,8}\\}$")) {
        must(i - begin < 60, "the method at line " + (begin + 1) + " is long");
        begin = -1;
      }
    }
  }

  public static void main(String[] args) throws Exception {
    List<String> lines = Files.readAllLines(Path.of("src/main/java/HotelSilver.java"));
    face();
    shapes();
    words(lines);
    lengths(lines);
    System.out.println(wrong == 0 ? "the rules are kept" : wrong + " rules are not kept");
    if (wrong != 0) System.exit(1);
  }
}
