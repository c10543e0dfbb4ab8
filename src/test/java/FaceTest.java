import java.lang.management.ManagementFactory;
import java.lang.reflect.Field;
import java.lang.reflect.Method;
import java.lang.reflect.Modifier;
import java.util.Set;
import java.util.TreeSet;

/** The class shows the document's face and no more, and its calls make no objects. */
public final class FaceTest {
  private static final Set<String> FACE = Set.of(
      "boolean key(char)", "boolean back()", "int enter()", "int facts(int)",
      "boolean holds(int,int,int)", "int mark(int,int)", "boolean drop(int)", "int clauses()",
      "int literals(int)", "int literal(int,int)", "int letter(int)", "boolean subsumes(int,int)",
      "int given(int,int)", "int rounds()", "boolean fits()", "int learn()");

  public static void main(String[] args) {
    members();
    nestedClasses();
    callsMakeNoObjects();
    Check.end();
  }

  /** The public face: every member of it, and no other. */
  private static void members() {
    Set<String> shown = new TreeSet<>();
    Set<String> names = new TreeSet<>();
    for (Method method : HornLearner.class.getDeclaredMethods()) {
      if (!Modifier.isPrivate(method.getModifiers())) {
        String text = method.toString().replace("HornLearner.", "");
        shown.add(text.replace("public ", ""));
        names.add(method.getName());
        Check.due(text + " is public", true, Modifier.isPublic(method.getModifiers()));
      }
    }
    Check.due("the methods", new TreeSet<>(FACE).toString(), shown.toString());
    for (Method method : HornLearner.class.getDeclaredMethods()) {
      boolean hidden = Modifier.isPrivate(method.getModifiers());
      Check.due(method + " has a name of its own", false, hidden && names.contains(method.getName()));
    }
    for (Field field : HornLearner.class.getDeclaredFields()) {
      int is = field.getModifiers();
      Check.due(field + " is private", true, Modifier.isPrivate(is));
      Check.due(field + " is no static state", true, !Modifier.isStatic(is) || Modifier.isFinal(is));
    }
    Check.due("the class is final", true, Modifier.isFinal(HornLearner.class.getModifiers()));
    Check.due("constructors", 1, HornLearner.class.getDeclaredConstructors().length);
    Check.due("public constructors", 1, HornLearner.class.getConstructors().length);
  }

  /** The public face: no class inside shows. */
  private static void nestedClasses() {
    for (Class<?> nested : HornLearner.class.getDeclaredClasses()) {
      int is = nested.getModifiers();
      Check.due(nested + " is static", true, Modifier.isStatic(is));
      Check.due(nested + " is hidden", false, Modifier.isPublic(is) || Modifier.isProtected(is));
    }
  }

  /** All calls of a run share one room, so only the constructor may fill it. */
  private static void callsMakeNoObjects() {
    Counted x = new Counted();
    for (String fact : new String[] {"a(0,1)", "a(1,2)", "b(2,3)", "+t(2,2)", "-t(3,3)"}) {
      Check.enters(x, 1, fact);
    }
    String clause = "t(X,Y):-a(X,Z),t(Z,Y),b(Z,Z)";
    callAll(x, clause);
    com.sun.management.ThreadMXBean threads =
        (com.sun.management.ThreadMXBean) ManagementFactory.getThreadMXBean();
    long before = threads.getCurrentThreadAllocatedBytes();
    for (int i = 0; i < 8; i++) {
      callAll(x, clause);
    }
    long made = threads.getCurrentThreadAllocatedBytes() - before;
    Check.due("8 times all calls make little: " + made, true, made < 4096);
  }

  private static void callAll(Counted x, String clause) {
    for (int i = 0; i < clause.length(); i++) {
      x.key(clause.charAt(i));
    }
    x.enter();
    x.key('?');
    x.back();
    x.facts(0);
    x.holds(0, 1, 2);
    x.mark(0, 1);
    x.clauses();
    x.literals(0);
    x.literal(0, 2);
    x.letter(20);
    x.subsumes(0, 0);
    x.given(1, 2);
    x.rounds();
    x.fits();
    x.learn();
    x.drop(0);
  }
}
