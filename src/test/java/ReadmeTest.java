import java.lang.reflect.Field;
import java.lang.reflect.Method;
import java.lang.reflect.Modifier;
import java.nio.file.Files;
import java.nio.file.Paths;
import java.util.regex.Matcher;
import java.util.regex.Pattern;

/** What README.md says of the class is so: its example is run, its tables are looked through. */
public final class ReadmeTest {
  private static final Pattern CALL =
      Pattern.compile("session\\.(\\w+)\\((-?\\d+)?(?:, (-?\\d+))?\\); +// (\\S+)");

  public static void main(String[] args) throws Exception {
    String readme = Files.readString(Paths.get("README.md"));
    example(readme);
    methodsAreTold(readme);
    constantsAreTold(readme);
    tokensAreTold(readme);
    Checks.finish();
  }

  private static void example(String readme) throws Exception {
    OpenTypeSession session = new OpenTypeSession();
    int calls = 0;
    for (String line : readme.split("\n")) {
      Matcher call = CALL.matcher(line);
      if (call.matches()) {
        Checks.due(line, answer(session, call), meaning(call.group(4)));
        calls++;
      } else {
        Checks.due("a call that isn't run: " + line, line.startsWith("session."), false);
      }
    }
    Checks.due("README.md has an example", calls > 0, true);
  }

  private static String answer(OpenTypeSession session, Matcher call) throws Exception {
    for (Method method : OpenTypeSession.class.getMethods()) {
      if (method.getName().equals(call.group(1))) {
        Object[] arguments = new Object[method.getParameterCount()];
        for (int i = 0; i < arguments.length; i++) {
          arguments[i] = Integer.valueOf(call.group(2 + i));
        }
        return String.valueOf(method.invoke(session, arguments));
      }
    }
    return "no such method";
  }

  private static String meaning(String answer) throws Exception {
    return answer.matches("[A-Z]+")
        ? String.valueOf(OpenTypeSession.class.getField(answer).getInt(null)) : answer;
  }

  private static void methodsAreTold(String readme) {
    for (Method method : OpenTypeSession.class.getDeclaredMethods()) {
      if (Modifier.isPublic(method.getModifiers())) {
        Checks.due("README.md has a row for " + method.getName(),
            readme.contains("\n| `" + method.getName() + "("), true);
      }
    }
  }

  private static void constantsAreTold(String readme) throws Exception {
    for (Field field : OpenTypeSession.class.getFields()) {
      String told = "`" + field.getName() + "` = " + field.getInt(null);
      Checks.due("README.md tells " + told,
          Pattern.compile(Pattern.quote(told) + "\\b").matcher(readme).find(), true);
    }
  }

  /** The rows of kinds follow each other, and each has the words of its kinds in their order. */
  private static void tokensAreTold(String readme) {
    Matcher row = Pattern.compile("\n\\| (\\d+) to (\\d+) \\| (.*) \\|").matcher(readme);
    int next = 0;
    while (row.find()) {
      Checks.due("the first kind of a row", Integer.parseInt(row.group(1)), next);
      int last = Integer.parseInt(row.group(2));
      StringBuilder words = new StringBuilder();
      for (int kind = next; kind <= last && kind < Checks.WORDS.size(); kind++) {
        words.append(kind > next ? " " : "").append(Checks.WORDS.get(kind));
      }
      Checks.due("the kinds from " + next, row.group(3).replace("`", "").replaceAll(", ", " "),
          words.toString());
      next = last + 1;
    }
    Checks.due("the kinds that README.md tells", next, Checks.WORDS.size());
  }
}
