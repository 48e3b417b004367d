import java.io.IOException;
import java.lang.reflect.Field;
import java.lang.reflect.InvocationTargetException;
import java.lang.reflect.Method;
import java.lang.reflect.Modifier;
import java.nio.charset.StandardCharsets;
import java.nio.file.DirectoryStream;
import java.nio.file.Files;
import java.nio.file.Path;
import java.util.ArrayList;
import java.util.List;
import java.util.Map;
import java.util.Set;
import java.util.TreeMap;
import java.util.TreeSet;
import java.util.regex.Matcher;
import java.util.regex.Pattern;

/**
 * What README.md shows is so: each line of its code is read and called, and its answer compared. A line
 * of code that is not of one of the three forms below fails, so that none is passed over unseen.
 */
public final class FloorTopsReadme {
  private static final String README = "README.md";
  private static final String DOCUMENT = "../shared/DOC.md";
  private static final String TESTS = "src/test/java";
  private static final int MOST_CALLS = 512;

  private static final String ARGUMENT = "-?\\d+|true|false|'[ -~]'";
  private static final String NEW_OBJECT = "FloorTops tops = new FloorTops();";
  private static final Pattern TYPED =
      Pattern.compile("for \\(char c : \"([^\"\\\\]*)\"\\.toCharArray\\(\\)\\) tops\\.type\\(c\\);");
  private static final Pattern CALL = Pattern.compile(
      "tops\\.(\\w+)\\(((?:" + ARGUMENT + ")(?:, (?:" + ARGUMENT + "))*)?\\); +// (-?\\d+|[A-Z_]+)(: .+)?");
  private static final Pattern CONSTANT = Pattern.compile("\\| `([A-Z_]+)` \\| (-?\\d+) \\| .+ \\|");
  private static final Pattern PLACE = Pattern.compile("`((?:\\.\\./shared|src|\\.ci)[^` ]*)`");

  private static final Map<String, Method> methods = new TreeMap<>();
  private static final Map<String, Integer> constants = new TreeMap<>();
  private static final Set<String> shown = new TreeSet<>();
  private static FloorTops tops = null;
  private static int calls = 0;
  private static int rows = 0;
  private static int line = 0;
  private static int wrong = 0;

  private static void due(boolean holds, String what) {
    if (!holds) {
      wrong++;
      System.out.println(README + (line == 0 ? "" : ", line " + line) + ": " + what);
    }
  }

  private static void readFace() throws IllegalAccessException {
    for (Method m : FloorTops.class.getDeclaredMethods()) {
      if (Modifier.isPublic(m.getModifiers())) {
        methods.put(m.getName(), m);
      }
    }
    for (Field f : FloorTops.class.getDeclaredFields()) {
      if (Modifier.isPublic(f.getModifiers())) {
        constants.put(f.getName(), f.getInt(null));
      }
    }
  }

  // ---- the code

  private static void code(List<String> lines) throws IllegalAccessException {
    boolean inCode = false;
    for (int i = 0; i < lines.size(); i++) {
      line = i + 1;
      String text = lines.get(i);
      if (text.startsWith("```")) {
        inCode = !inCode;
        due(!inCode || text.equals("```java"), "code is Java: " + text);
        tops = null;
      } else if (inCode) {
        oneLine(text);
      }
    }
    due(!inCode, "a piece of code has no end");
    line = 0;
  }

  private static void oneLine(String text) throws IllegalAccessException {
    if (text.equals(NEW_OBJECT)) {
      tops = new FloorTops();
      calls = 0;
      return;
    }
    Matcher typed = TYPED.matcher(text);
    Matcher call = CALL.matcher(text);
    if (tops == null) {
      due(false, "there is no object yet: " + text);
    } else if (typed.matches()) {
      for (char c : typed.group(1).toCharArray()) {
        counted();
        tops.type(c);
      }
    } else if (call.matches()) {
      row(call.group(1), arguments(call.group(2)), call.group(3));
    } else {
      due(false, "this can't be tested: " + text);
    }
  }

  private static void counted() {
    calls++;
    due(calls <= MOST_CALLS, "more than 512 calls");
  }

  private static Object[] arguments(String text) {
    List<Object> arguments = new ArrayList<>();
    Matcher one = Pattern.compile(ARGUMENT).matcher(text == null ? "" : text);
    while (one.find()) {
      String word = one.group();
      if (word.startsWith("'")) {
        arguments.add(word.charAt(1));
      } else if (word.equals("true") || word.equals("false")) {
        arguments.add(word.equals("true"));
      } else {
        arguments.add(Integer.parseInt(word));
      }
    }
    return arguments.toArray();
  }

  private static void row(String name, Object[] arguments, String answer) throws IllegalAccessException {
    Method method = methods.get(name);
    Integer want = constants.get(answer);
    if (method == null || want == null && !answer.matches("-?\\d+")) {
      due(false, "there is no " + (method == null ? name : answer));
      return;
    }
    int wanted = want == null ? Integer.parseInt(answer) : want;
    due(want != null || !constants.containsValue(wanted), answer + " is told by its name");
    shown.add(name);
    rows++;
    counted();
    try {
      int got = (Integer) method.invoke(tops, arguments);
      due(got == wanted, name + " answers " + got + ", not " + answer);
    } catch (IllegalArgumentException | InvocationTargetException e) {
      due(false, name + " can't be called so: " + e);
    }
  }

  // ---- what else the page says

  private static void tableOfConstants(List<String> lines) {
    Map<String, Integer> told = new TreeMap<>();
    for (String text : lines) {
      Matcher constant = CONSTANT.matcher(text);
      if (constant.matches()) {
        told.put(constant.group(1), Integer.parseInt(constant.group(2)));
      }
    }
    due(told.equals(constants), "the constants are " + constants + ", not " + told);
  }

  private static void places(String page) throws IOException {
    Matcher place = PLACE.matcher(page);
    while (place.find()) {
      due(Files.exists(Path.of(place.group(1))), "there is no " + place.group(1));
    }
    due(page.contains("    .ci/run\n") && Files.exists(Path.of(".ci/run")), "it says how the tests are run");
    try (DirectoryStream<Path> tests = Files.newDirectoryStream(Path.of(TESTS))) {
      for (Path test : tests) {
        due(page.contains("`" + TESTS + "/" + test.getFileName() + "`"), test + " is not named");
      }
    }
  }

  private static void numbers(String page) throws IOException {
    Matcher promise = Pattern.compile("(?m)^## Promise ").matcher(read(DOCUMENT));
    int promises = 0;
    while (promise.find()) {
      promises++;
    }
    due(page.contains("(" + promises + " numbered promises)"), "there are " + promises + " promises");
    String model = read(TESTS + "/FloorTopsModel.java");
    due(page.contains(constantOf(model, "RUNS") + " runs of up to " + constantOf(model, "CALLS") + " calls"),
        "the runs of FloorTopsModel are as many as it says");
  }

  private static String constantOf(String source, String name) {
    Matcher constant = Pattern.compile("\\b" + name + " = (\\d+);").matcher(source);
    return constant.find() ? constant.group(1) : name;
  }

  private static String read(String place) throws IOException {
    return Files.readString(Path.of(place), StandardCharsets.UTF_8);
  }

  public static void main(String[] args) throws IllegalAccessException, IOException {
    readFace();
    String page = read(README);
    List<String> lines = page.lines().toList();
    code(lines);
    due(shown.equals(methods.keySet()), "each method is shown, not only " + shown);
    tableOfConstants(lines);
    places(page);
    numbers(page);
    System.out.println(wrong == 0 ? rows + " calls of README.md answer as it shows" : wrong + " things do not hold");
    if (wrong != 0) {
      System.exit(1);
    }
  }
}
