import java.io.IOException;
import java.lang.reflect.Constructor;
import java.lang.reflect.Field;
import java.lang.reflect.Method;
import java.lang.reflect.Modifier;
import java.nio.file.Files;
import java.nio.file.Path;
import java.util.Arrays;
import java.util.Set;
import java.util.TreeSet;
import java.util.regex.Matcher;
import java.util.regex.Pattern;

/**
 * The face of the class, as the document prints it, and those rules of LANGUAGE.md that can be seen from
 * outside or in the source's words.
 */
public final class FloorTopsFace {
  private static final String SOURCE = "src/main/java/FloorTops.java";
  private static final String DOCUMENT = "../shared/DOC.md";
  private static final String[] FACE = {
    "int arrive(int, char, int)", "int feed(int)", "int flow(char, int)", "int flowAll()",
    "int merge(int, int)", "int copy(int, int)", "int setSize(int, int)", "int clear(int)",
    "int type(char)", "int clearText()", "int perform()", "int undo()", "int keep()", "int restore()",
    "int summary(int, int)", "int bound(int, char, int)", "int top(int, int, int)",
    "int first(int, int, boolean)", "int above(int, int, boolean)", "int rank(int, char, boolean)",
    "int alike(int, int)", "int wouldEvict(int, char)", "int block(int, int)", "int event(int, int)",
    "int count(int)"};
  private static final String[] CONSTANTS = {
    "UNKNOWN = -1", "BAD_VALUE = -2", "FULL = -3", "NOT_POSSIBLE = -4", "NONE = -5"};
  /** Rules 2, 4, 5, 6 and 12: what the source never says. */
  private static final String[] NEVER = {
    "\\bthrow\\b", "\\bthrows\\b", "\\btry\\b", "\\bcatch\\b", "\\bfinally\\b", "\\bsynchronized\\b",
    "\\bassert\\b", "\\bimport\\b", "\\bpackage\\b", "->", "::", "\\bstatic\\s*\\{", "\\bvolatile\\b",
    "\\bSystem\\.(?!arraycopy)", "Exact\\b", "\\bMath\\.random", "\\bhashCode\\b", "\\btoString\\b",
    "\\bObject\\b", "\\bThread\\b", "\\bfor\\s*\\(\\s*;\\s*;", "\\bwhile\\s*\\(\\s*true"};

  private static int wrong = 0;

  private static void due(boolean holds, String what) {
    if (!holds) {
      wrong++;
      System.out.println("does not hold: " + what);
    }
  }

  private static String told(Method m) {
    StringBuilder text = new StringBuilder(m.getReturnType().getSimpleName() + " " + m.getName() + "(");
    for (Class<?> type : m.getParameterTypes()) {
      text.append(text.charAt(text.length() - 1) == '(' ? "" : ", ").append(type.getSimpleName());
    }
    return text.append(")").toString();
  }

  private static void face() throws IllegalAccessException {
    Class<?> type = FloorTops.class;
    int asked = Modifier.PUBLIC | Modifier.FINAL;
    due((type.getModifiers() & asked) == asked, "the class is public and final");
    due(type.getPackageName().isEmpty(), "the class has no package");
    Constructor<?>[] made = type.getDeclaredConstructors();
    due(made.length == 1 && made[0].getParameterCount() == 0 && Modifier.isPublic(made[0].getModifiers()),
        "one public constructor without parameters");
    Set<String> methods = new TreeSet<>();
    Set<String> names = new TreeSet<>();
    for (Method m : type.getDeclaredMethods()) {
      if (!Modifier.isPrivate(m.getModifiers())) {
        due(Modifier.isPublic(m.getModifiers()) && !Modifier.isStatic(m.getModifiers()), told(m) + " is public");
        methods.add(told(m));
        names.add(m.getName());
      }
    }
    due(methods.equals(new TreeSet<>(Arrays.asList(FACE))), "the methods are those of the document: " + methods);
    constants(type);
    insides(type, names);
  }

  private static void constants(Class<?> type) throws IllegalAccessException {
    Set<String> constants = new TreeSet<>();
    for (Field f : type.getDeclaredFields()) {
      int m = f.getModifiers();
      if (!Modifier.isPrivate(m)) {
        due(Modifier.isPublic(m) && Modifier.isStatic(m) && Modifier.isFinal(m) && f.getType() == int.class,
            f + " is a public constant");
        constants.add(f.getName() + " = " + f.getInt(null));
      }
      due(!Modifier.isStatic(m) || Modifier.isFinal(m), f + " is final");
    }
    due(constants.equals(new TreeSet<>(Arrays.asList(CONSTANTS))), "the constants are those of the document");
  }

  private static void insides(Class<?> type, Set<String> names) {
    due(type.getDeclaredClasses().length <= 12, "some twelve classes at most");
    for (Class<?> inside : type.getDeclaredClasses()) {
      int m = inside.getModifiers();
      due(Modifier.isStatic(m) && !Modifier.isPublic(m) && !Modifier.isProtected(m), inside + " is static");
      int fields = 0;
      for (Field f : inside.getDeclaredFields()) {
        due(!Modifier.isStatic(f.getModifiers()) || Modifier.isFinal(f.getModifiers()), f + " is final");
        fields += Modifier.isStatic(f.getModifiers()) ? 0 : 1;
      }
      due(fields <= 20, inside + " has some twenty fields at most");
      for (Method method : inside.getDeclaredMethods()) {
        due(!names.contains(method.getName()), method + " does not bear the name of a public method");
        due(method.getParameterCount() <= 7, method + " takes seven parameters at most");
      }
    }
  }

  private static void source() throws IOException {
    String source = Files.readString(Path.of(SOURCE));
    due(source.chars().allMatch(c -> c == '\n' || c >= 32 && c < 127), "the source has plain signs alone");
    String words = source.replaceAll("(?s)/\\*.*?\\*/", " ").replaceAll("//[^\n]*", " ")
        .replaceAll("\"[^\"]*\"", "\"\"");
    for (String never : NEVER) {
      due(!Pattern.compile(never).matcher(words).find(), "the source never says " + never);
    }
    // Rule 11: from a line that opens a method to the one that closes it, some sixty lines at most.
    Matcher method = Pattern.compile("(?ms)^(    |        )(?![ }])[^\n]+\\) \\{$.*?^\\1}$").matcher(source);
    int methods = 0;
    while (method.find()) {
      methods++;
      due(method.group().lines().count() <= 60, "this method is short: " + method.group().lines().findFirst());
    }
    due(methods > FACE.length, "the methods in the source are seen: " + methods);
  }

  /** The members as the document prints them, and what the interface says ahead of which calls. */
  private static void asPrinted() throws IOException {
    String document = Files.readString(Path.of(DOCUMENT));
    String source = Files.readString(Path.of(SOURCE));
    int members = 0;
    Matcher member = Pattern.compile("(?m)^    (public .+);$").matcher(document);
    while (member.find()) {
      members++;
      String end = member.group(1).endsWith(")") ? " {\n" : ";\n";
      due(source.contains("\n    " + member.group(1) + end), "the source says " + member.group(1));
    }
    due(members == CONSTANTS.length + 1 + FACE.length, "the document prints " + members + " members");
    StringBuilder sections = new StringBuilder();
    Matcher ahead = Pattern.compile("Ahead of the calls `(.+)` the interface says: (---- .+)\\.").matcher(document);
    while (ahead.find()) {
      sections.append(ahead.group(2)).append(": ").append(ahead.group(1).replace("`, `", " ")).append('\n');
    }
    due(sections.length() > 0 && sectionsOf(source).startsWith(sections.toString()),
        "the interface says:\n" + sections + "and not:\n" + sectionsOf(source));
  }

  /** A line for each comment that begins a section, with the public methods that follow it. */
  private static String sectionsOf(String source) {
    StringBuilder sections = new StringBuilder();
    Matcher part = Pattern.compile("(?m)^    // (---- .+)$|^    public int (\\w+)\\(").matcher(source);
    while (part.find()) {
      if (part.group(1) != null) {
        sections.append(sections.length() == 0 ? "" : "\n").append(part.group(1)).append(':');
      } else {
        sections.append(' ').append(part.group(2));
      }
    }
    return sections.append('\n').toString();
  }

  /** Nothing that a call may be given makes it throw, in an empty object or in a full one. */
  private static void neverThrows() {
    int[] numbers = {Integer.MIN_VALUE, -1, 0, 1, 2, 3, 4, 5, 10, 11, 25, 26, 99, 100, Integer.MAX_VALUE};
    char[] letters = {(char) 0, '`', 'a', 'z', '{', (char) 0xffff};
    FloorTops x = new FloorTops();
    for (char letter : letters) {
      for (int one : numbers) {
        for (int two : numbers) {
          x.type((char) two);
          x.arrive(one & 3, (char) ('a' + (two & 15)), 1 + (two & 63));
          x.flow((char) ('a' + (two & 15)), 9);
          callAll(x, one, two, letter);
        }
      }
    }
  }

  private static void callAll(FloorTops x, int one, int two, char letter) {
    x.arrive(one, letter, two);
    x.feed(one);
    x.flow(letter, one);
    x.flowAll();
    x.merge(one, two);
    x.copy(one, two);
    x.setSize(one, two);
    x.clear(one);
    x.perform();
    x.undo();
    x.keep();
    x.restore();
    x.summary(one, two);
    x.bound(one, letter, two);
    x.top(one, two, one & 1);
    x.first(one, two, true);
    x.above(one, two, false);
    x.rank(one, letter, true);
    x.alike(one, two);
    x.wouldEvict(one, letter);
    x.block(one, two);
    x.event(one, two);
    x.count(two);
  }

  public static void main(String[] args) throws IllegalAccessException, IOException {
    face();
    asPrinted();
    source();
    neverThrows();
    System.out.println(wrong == 0 ? "the face is as due" : wrong + " things do not hold");
    if (wrong != 0) {
      System.exit(1);
    }
  }
}
