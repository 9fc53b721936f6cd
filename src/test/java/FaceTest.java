import java.lang.reflect.Constructor;
import java.lang.reflect.Field;
import java.lang.reflect.Method;
import java.lang.reflect.Modifier;
import java.util.Arrays;
import java.util.Set;
import java.util.TreeSet;

/** "The public face": all of it is there, and nothing else can be seen from outside. */
public final class FaceTest {
  private static final Class<?> SESSION = OpenTypeSession.class;

  public static void main(String[] args) throws Exception {
    theClass();
    Checks.due("constants", constants(), setOf(
        "OK = 0", "SYNTAX = 1", "UNBOUND = 2", "CLASH = 3", "LARGE = 4", "FULL = 5", "NO = 6",
        "INT = 0", "BOOL = 1", "UNIT = 2", "LIST = 3", "REF = 4", "PAIR = 5", "ARROW = 6",
        "GENERAL = 10", "OPEN = 100"));
    Checks.due("constructors", constructors(), setOf("public OpenTypeSession()"));
    Checks.due("methods", methods(), setOf(
        "public boolean token(int, int)", "public int wipe()", "public int declare()",
        "public int place()", "public int reset()", "public int size(int)",
        "public int node(int, int)", "public int fits(int)"));
    Checks.finish();
  }

  private static void theClass() {
    Checks.due("the class is public and final", Modifier.toString(SESSION.getModifiers()),
        "public final");
    Checks.due("its package", SESSION.getPackageName(), "");
    Checks.due("what it extends", SESSION.getSuperclass(), Object.class);
    Checks.due("what it implements", SESSION.getInterfaces().length, 0);
    Checks.due("classes in it", SESSION.getDeclaredClasses().length, 0);
  }

  private static Set<String> setOf(String... texts) {
    return new TreeSet<>(Arrays.asList(texts));
  }

  private static boolean canBeSeen(int modifiers) {
    return !Modifier.isPrivate(modifiers);
  }

  private static Set<String> constants() throws IllegalAccessException {
    Set<String> found = new TreeSet<>();
    for (Field field : SESSION.getDeclaredFields()) {
      if (canBeSeen(field.getModifiers())) {
        Checks.due("modifiers and type of " + field.getName(),
            Modifier.toString(field.getModifiers()) + " " + field.getType(),
            "public static final int");
        found.add(field.getName() + " = " + field.getInt(null));
      }
    }
    return found;
  }

  private static Set<String> constructors() {
    Set<String> found = new TreeSet<>();
    for (Constructor<?> constructor : SESSION.getDeclaredConstructors()) {
      if (canBeSeen(constructor.getModifiers())) {
        found.add(constructor.toGenericString());
      }
    }
    return found;
  }

  private static Set<String> methods() {
    Set<String> found = new TreeSet<>();
    for (Method method : SESSION.getDeclaredMethods()) {
      if (canBeSeen(method.getModifiers())) {
        String parameters = Arrays.toString(method.getParameterTypes());
        found.add(Modifier.toString(method.getModifiers()) + " " + method.getReturnType() + " "
            + method.getName() + "(" + parameters.substring(1, parameters.length() - 1) + ")");
      }
    }
    return found;
  }
}
