import java.lang.reflect.Constructor;
import java.lang.reflect.Field;
import java.lang.reflect.Method;
import java.lang.reflect.Modifier;
import java.util.TreeSet;

/** The class shows the document's face and nothing else. */
public final class FaceTest {
  private static int wrong = 0;

  private static void due(String what, Object got, Object want) {
    if (!want.equals(got)) { wrong++; System.out.println(what + " is " + got + ", due is " + want); }
  }

  private static String signature(Method m) {
    StringBuilder text = new StringBuilder(Modifier.toString(m.getModifiers()) + " " + m.getReturnType() + " " + m.getName());
    for (Class<?> p : m.getParameterTypes()) text.append(" ").append(p);
    return text.toString();
  }

  public static void main(String[] args) {
    TreeSet<String> methods = new TreeSet<>();
    TreeSet<String> hidden = new TreeSet<>();
    for (Method m : MineReasoner.class.getDeclaredMethods()) {
      if (Modifier.isPrivate(m.getModifiers())) hidden.add(m.getName());
      else methods.add(signature(m));
    }
    TreeSet<String> want = new TreeSet<>();
    for (String name : new String[] {"groups", "layouts", "free", "sure", "best", "simple", "paired"}) want.add("public int " + name);
    for (String name : new String[] {"cover", "total", "clue", "groupOf", "mined", "clues", "withMines", "decided"}) {
      want.add("public int " + name + " int");
    }
    want.add("public int show int int");
    due("the set of methods", methods, want);
    for (String line : want) {
      String name = line.split(" ")[2];
      due("a private method is named " + name, hidden.contains(name), false);
    }

    TreeSet<String> fields = new TreeSet<>();
    for (Field f : MineReasoner.class.getDeclaredFields()) {
      if (!Modifier.isPrivate(f.getModifiers())) fields.add(Modifier.toString(f.getModifiers()) + " " + f.getType() + " " + f.getName());
      if (Modifier.isStatic(f.getModifiers())) due("static " + f.getName() + " is final", Modifier.isFinal(f.getModifiers()), true);
    }
    TreeSet<String> constants = new TreeSet<>();
    for (String name : new String[] {"BAD_ARG", "NONE", "CLASH"}) constants.add("public static final int " + name);
    due("the set of fields", fields, constants);
    due("BAD_ARG", MineReasoner.BAD_ARG, -1);
    due("NONE", MineReasoner.NONE, -2);
    due("CLASH", MineReasoner.CLASH, -3);

    Constructor<?>[] made = MineReasoner.class.getDeclaredConstructors();
    due("the number of constructors", made.length, 1);
    due("the constructor", made[0].toString(), "public MineReasoner()");
    due("the class", Modifier.toString(MineReasoner.class.getModifiers()), "public final");
    due("the number of nested classes", MineReasoner.class.getDeclaredClasses().length, 0);
    System.out.println(wrong == 0 ? "the face is as due" : wrong + " parts of the face are not as due");
    if (wrong != 0) System.exit(1);
  }
}
