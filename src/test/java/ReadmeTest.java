import java.io.File;
import java.io.IOException;
import java.lang.reflect.Field;
import java.lang.reflect.Method;
import java.lang.reflect.Modifier;
import java.nio.file.Files;
import java.nio.file.Path;
import java.util.ArrayList;
import java.util.List;
import java.util.TreeSet;
import java.util.regex.Matcher;
import java.util.regex.Pattern;

/**
 * What README.md shows of the class is what the class answers. A line of a Java block that is not understood is a
 * failure, and so is a call shown anywhere else, so that nothing shown goes without its check.
 */
public final class ReadmeTest {
  private static final String FENCE = "```";
  private static final String MAKE = "MineReasoner x = new MineReasoner();";
  private static final int MAX_CALLS = 512;

  /** A call, its answer as a number, what else is said of that number (a code's name or a sum), and a remark. */
  private static final Pattern CALL = Pattern.compile(
      "x\\.(\\w+)\\(((?:-?\\d+(?:, -?\\d+)*)?)\\); +// (-?\\d+)(?: \\((\\w+)\\)| = (2\\^\\d+(?: \\+ 2\\^\\d+)*))?(?:: .+)?");
  private static final Pattern CALL_ROW = Pattern.compile("\\| `(\\w+)\\(([^()]*)\\)` \\|.*");
  private static final Pattern CODE_ROW = Pattern.compile("\\| `([A-Z_]+)` \\| (-?\\d+) \\|.*");
  private static final Pattern TEST_ITEM = Pattern.compile("- `(\\w+)`: .*");
  private static final Pattern ANY_CALL = Pattern.compile("\\b(\\w+)\\(");

  private static final TreeSet<String> used = new TreeSet<>();
  private static final TreeSet<String> named = new TreeSet<>();
  private static int line = 0;
  private static int calls = 0;
  private static int answers = 0;
  private static int wrong = 0;
  private static MineReasoner x = null;

  private static void fail(String what) {
    wrong++;
    System.out.println("README.md, line " + line + ": " + what);
  }

  private static void due(String what, Object got, Object want) {
    if (got.equals(want)) return;
    wrong++;
    System.out.println("README.md: " + what + " is " + got + ", due is " + want);
  }

  private static String face(String name, int arguments) {
    return name + " with " + arguments;
  }

  private static int countOf(String arguments) {
    return arguments.isEmpty() ? 0 : arguments.split(", ", -1).length;
  }

  private static TreeSet<String> calls() {
    TreeSet<String> all = new TreeSet<>();
    for (Method m : MineReasoner.class.getDeclaredMethods()) {
      if (Modifier.isPublic(m.getModifiers())) all.add(face(m.getName(), m.getParameterCount()));
    }
    return all;
  }

  private static TreeSet<String> codes() throws IllegalAccessException {
    TreeSet<String> all = new TreeSet<>();
    for (Field f : MineReasoner.class.getDeclaredFields()) {
      if (Modifier.isPublic(f.getModifiers())) all.add(f.getName() + " is " + f.getInt(null));
    }
    return all;
  }

  private static TreeSet<String> tests() {
    TreeSet<String> all = new TreeSet<>();
    String[] files = new File("src/test/java").list();
    if (files == null) return all;
    for (String file : files) all.add(file.replace(".java", ""));
    return all;
  }

  private static boolean mentionsCall(String text) {
    TreeSet<String> names = new TreeSet<>();
    for (Method m : MineReasoner.class.getDeclaredMethods()) {
      if (Modifier.isPublic(m.getModifiers())) names.add(m.getName());
    }
    Matcher call = ANY_CALL.matcher(text);
    while (call.find()) if (names.contains(call.group(1))) return true;
    return false;
  }

  private static int answer(String name, String arguments) throws ReflectiveOperationException {
    int count = countOf(arguments);
    Class<?>[] types = new Class<?>[count];
    Object[] numbers = new Object[count];
    String[] told = arguments.split(", ", -1);
    for (int i = 0; i < count; i++) {
      types[i] = int.class;
      numbers[i] = Integer.parseInt(told[i]);
    }
    return (Integer) MineReasoner.class.getMethod(name, types).invoke(x, numbers);
  }

  private static int sumOf(String powers) {
    int sum = 0;
    for (String power : powers.split(" \\+ ")) sum += 1 << Integer.parseInt(power.substring(2));
    return sum;
  }

  private static void checkCall(String text) throws ReflectiveOperationException {
    Matcher call = CALL.matcher(text);
    if (x == null || !call.matches()) {
      fail("no call of x with its answer: " + text);
      return;
    }
    String face = face(call.group(1), countOf(call.group(2)));
    if (!calls().contains(face)) {
      fail("the class has no call " + face + " arguments: " + text);
      return;
    }
    int told = Integer.parseInt(call.group(3));
    int got = answer(call.group(1), call.group(2));
    if (got != told) fail(text + " told, but the answer is " + got);
    if (call.group(5) != null && sumOf(call.group(5)) != told) fail(call.group(5) + " is " + sumOf(call.group(5)) + ", not " + told);
    if (call.group(4) != null) {
      String code = call.group(4) + " is " + told;
      if (!codes().contains(code)) fail("no code " + code);
      named.add(code);
    }
    used.add(face);
    answers++;
    calls++;
    if (calls > MAX_CALLS) fail("more than " + MAX_CALLS + " calls on one object, which then answers as it likes");
  }

  private static void checkJava(String text) throws ReflectiveOperationException {
    if (text.equals(MAKE)) {
      if (x != null) fail("x is made for a second time in one block");
      x = new MineReasoner();
      calls = 0;
    } else if (!text.isBlank()) {
      checkCall(text);
    }
  }

  private static void addRow(String text, List<String> callRows, List<String> codeRows, List<String> testItems) {
    Matcher call = CALL_ROW.matcher(text);
    Matcher code = CODE_ROW.matcher(text);
    Matcher test = TEST_ITEM.matcher(text);
    if (call.matches()) callRows.add(face(call.group(1), countOf(call.group(2))));
    else if (mentionsCall(text)) fail("a call outside of a Java block is not checked: " + text);
    if (code.matches()) codeRows.add(code.group(1) + " is " + code.group(2));
    if (test.matches()) testItems.add(test.group(1));
  }

  /** Each once and no other. */
  private static void dueOnce(String what, List<String> got, TreeSet<String> want) {
    due(what, new TreeSet<>(got), want);
    due("the number of " + what, got.size(), want.size());
  }

  public static void main(String[] args) throws IOException, ReflectiveOperationException {
    List<String> callRows = new ArrayList<>();
    List<String> codeRows = new ArrayList<>();
    List<String> testItems = new ArrayList<>();
    String block = "";
    for (String text : Files.readAllLines(Path.of("README.md"))) {
      line++;
      if (text.startsWith(FENCE)) {
        block = block.isEmpty() ? text : "";
        x = null;
      } else if (block.equals(FENCE + "java")) {
        checkJava(text);
      } else {
        addRow(text, callRows, codeRows, testItems);
      }
    }
    due("the last block", block, "");
    due("the calls shown with an answer", used, calls());
    due("the codes shown in an answer", named, codes());
    dueOnce("the calls of the table", callRows, calls());
    dueOnce("the codes of the table", codeRows, codes());
    dueOnce("the tests listed", testItems, tests());
    due("that .ci/run can be run", new File(".ci/run").canExecute(), true);
    System.out.println(wrong == 0 ? answers + " answers shown are the class's" : wrong + " things shown are not so");
    if (wrong != 0) System.exit(1);
  }
}
