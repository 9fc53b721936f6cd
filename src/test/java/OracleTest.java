import java.util.ArrayList;
import java.util.List;
import java.util.Map;
import java.util.Random;
import java.util.TreeMap;

/** Promises 1 to 10: long runs of calls from a fixed seed, each answered by the oracle too. */
public final class OracleTest {
  private static final int RUNS = 300;
  /** Nothing is promised behind these; a step and a look at some types must still find room. */
  private static final int CALLS = 512;
  private static final int ROOM = 120;
  private static final int NAMES_A_LOOK = 3;
  private static final int TOKEN = 0, WIPE = 1, DECLARE = 2, FITS = 3, RESET = 4;

  private final Random random;
  private final OpenTypeSession session = new OpenTypeSession();
  private final Oracle oracle = new Oracle();
  private final List<String> history = new ArrayList<>();
  private final List<int[]> made = new ArrayList<>();
  private final Map<String, Integer> seen;
  private final int seed;
  private int calls = 0;

  private OracleTest(int seed, Map<String, Integer> seen) {
    this.seed = seed;
    this.random = new Random(seed);
    this.seen = seen;
  }

  public static void main(String[] args) {
    int from = args.length > 0 ? Integer.parseInt(args[0]) : 0;
    int runs = args.length > 1 ? Integer.parseInt(args[1]) : RUNS;
    Map<String, Integer> seen = new TreeMap<>();
    for (int seed = from; seed < from + runs && Checks.isClean(); seed++) {
      new OracleTest(seed, seen).run();
    }
    if (args.length > 0) {
      System.out.println(seen);
    }
    // Without these the runs would show less than they claim to.
    for (String answer : new String[] {"declare 0", "declare 1", "declare 2", "declare 3", "declare 4",
        "declare 5", "fits 0", "fits 1", "fits 2", "fits 6"}) {
      if (Checks.isClean()) {
        Checks.due("the runs saw " + answer, seen.getOrDefault(answer, 0) > 0, true);
      }
    }
    Checks.finish();
  }

  private void run() {
    while (calls < CALLS - ROOM && Checks.isClean()) {
      int choice = random.nextInt(100);
      if (choice < 72) {
        tryDeclaration();
      } else if (choice < 90) {
        tryFits();
      } else if (choice < 95) {
        strayTokens();
      } else if (choice == 95 && random.nextInt(3) == 0) {
        same("reset()", call(session, RESET, 0, 0), oracle.reset());
      } else {
        wipe();
      }
    }
    Checks.due("seed " + seed + " made no call too many", calls + 15 * NAMES_A_LOOK <= CALLS, true);
  }

  /** Makes a call and remembers it; a boolean counts 1 or 0. */
  private int call(OpenTypeSession asked, int which, int first, int second) {
    if (asked == session) {
      made.add(new int[] {which, first, second});
    }
    switch (which) {
      case TOKEN:
        return asked.token(first, second) ? 1 : 0;
      case WIPE:
        return asked.wipe();
      case DECLARE:
        return asked.declare();
      case FITS:
        return asked.fits(first);
      default:
        return asked.reset();
    }
  }

  /** Another object that has gone through the same calls. */
  private OpenTypeSession replay() {
    OpenTypeSession copy = new OpenTypeSession();
    for (int[] one : made) {
      call(copy, one[0], one[1], one[2]);
    }
    return copy;
  }

  private void same(String call, int got, int want) {
    calls++;
    history.add(call + " -> " + want);
    look(call, got, want);
  }

  private void token(int kind, int value) {
    same("token(" + kind + ", " + value + ")", call(session, TOKEN, kind, value),
        oracle.token(kind, value) ? 1 : 0);
  }

  private void wipe() {
    same("wipe()", call(session, WIPE, 0, 0), oracle.wipe());
  }

  private void place() {
    same("place()", session.place(), oracle.place());
  }

  private void spell(String text) {
    history.add(text);
    for (String word : text.trim().split(" +")) {
      if (!word.isEmpty()) {
        token(Checks.kindOf(word), Checks.valueOf(word));
      }
    }
  }

  private void tryDeclaration() {
    if (random.nextInt(20) != 0) {
      wipe();
    }
    spell(spoil(likelyDeclaration()));
    int answer = oracle.declare();
    seen.merge("declare " + answer, 1, Integer::sum);
    same("declare()", call(session, DECLARE, 0, 0), answer);
    place();
    compareTypes();
  }

  /** Most random declarations clash: of several, one that is accepted is taken, mostly. */
  private String likelyDeclaration() {
    String text = declaration(24, "");
    for (int i = random.nextInt(30); i > 0; i--) {
      int answer = oracle.wouldDeclare(tokensOf(text));
      if (answer == 0 || answer == 4 || answer == 3 && i < 3) {
        return text;
      }
      text = declaration(24, "");
    }
    return text;
  }

  private static List<int[]> tokensOf(String text) {
    List<int[]> tokens = new ArrayList<>();
    for (String word : text.trim().split(" +")) {
      if (tokens.size() < 24) {
        tokens.add(new int[] {Checks.kindOf(word), Checks.valueOf(word)});
      }
    }
    return tokens;
  }

  /** Looks at all types, a few an object, so that none is asked more often than is promised for. */
  private void compareTypes() {
    OpenTypeSession copy = session;
    for (int name = 0; name < 12 && Checks.isClean(); name++) {
      if (name % NAMES_A_LOOK == 0) {
        copy = replay();
      }
      int size = oracle.size(name);
      look("size(" + name + ")", copy.size(name), size);
      for (int k = -1; k <= size; k++) {
        look("node(" + name + ", " + k + ")", copy.node(name, k), oracle.node(name, k));
      }
    }
  }

  private void look(String call, int got, int want) {
    if (got != want) {
      System.out.println("seed " + seed + ": " + history);
    }
    Checks.due("seed " + seed + " " + call, got, want);
  }

  private void tryFits() {
    wipe();
    int name = random.nextInt(14) - 1;
    for (int i = 0; i < 5 && oracle.size(name) == 0; i++) {
      name = random.nextInt(12);
    }
    spell(spoil(random.nextInt(4) == 0 || oracle.size(name) == 0 ? type(3) : instanceOf(name)));
    int answer = oracle.fits(name);
    seen.merge("fits " + answer, 1, Integer::sum);
    same("fits(" + name + ")", call(session, FITS, name, 0), answer);
    place();
  }

  private void strayTokens() {
    for (int i = random.nextInt(6); i >= 0; i--) {
      token(random.nextInt(44) - 3, random.nextInt(16) - 2);
    }
    same("size(-1)", session.size(-1), 0);
    same("size(12)", session.size(12), 0);
    same("node(-1, 0)", session.node(-1, 0), -1);
    same("node(12, 0)", session.node(12, 0), -1);
  }

  /** Now and then one word is changed, lost or doubled. */
  private String spoil(String text) {
    if (random.nextInt(8) != 0) {
      return text;
    }
    String[] words = text.trim().split(" +");
    int at = random.nextInt(words.length);
    switch (random.nextInt(3)) {
      case 0:
        words[at] = "";
        break;
      case 1:
        words[at] = words[at] + " " + words[at];
        break;
      default:
        words[at] = words[random.nextInt(words.length)];
        break;
    }
    return String.join(" ", words);
  }

  // ---- Random declarations: scope is a string of the letters bound around ----

  private String letter() {
    return String.valueOf((char) ('a' + random.nextInt(random.nextInt(4) == 0 ? 12 : 7)));
  }

  private String knownName(String scope) {
    if (!scope.isEmpty() && random.nextInt(3) != 0) {
      int at = scope.length() - 1 - random.nextInt(Math.min(scope.length(), 3));
      return scope.substring(at, at + 1);
    }
    for (int i = 0; i < 12; i++) {
      int name = random.nextInt(12);
      if (oracle.size(name) > 0) {
        return String.valueOf((char) ('a' + name));
      }
    }
    return random.nextInt(4) == 0 ? letter() : "nil";
  }

  private String declaration(int room, String scope) {
    String name = letter();
    if (random.nextInt(5) < 3) {
      return "val " + name + " = " + expression(room - 3, scope) + " ";
    }
    StringBuilder names = new StringBuilder(name);
    String inner = scope + name;
    for (int i = random.nextInt(3); i >= 0; i--) {
      String next = letter();
      names.append(" ").append(next);
      inner += next;
    }
    return "fun " + names + " = " + expression(room - 4, inner) + " ";
  }

  private String expression(int room, String scope) {
    int choice = random.nextInt(14);
    if (choice < 2 && room > 4) {
      String name = letter();
      return "fn " + name + " => " + expression(room - 3, scope + name);
    }
    if (choice == 2 && room > 7) {
      String condition = random.nextInt(3) == 0 ? expression(room / 3, scope) : "null " + knownName(scope);
      return "if " + condition + " then " + expression(room / 3, scope) + " else "
          + expression(room / 3, scope);
    }
    return operators(room, scope);
  }

  private String operators(int room, String scope) {
    int half = (room - 1) / 2;
    switch (room > 2 ? random.nextInt(12) : 11) {
      case 0:
        return knownName(scope) + " := " + operators(room - 2, scope);
      case 1:
      case 2:
        return application(half, scope) + " :: " + (random.nextBoolean() ? "nil" : operators(half, scope));
      case 3:
        return application(half, scope) + (random.nextBoolean() ? " + " : " - ") + application(half, scope);
      case 4:
        return application(half, scope) + " < " + application(half, scope);
      default:
        return application(room, scope);
    }
  }

  private String application(int room, String scope) {
    StringBuilder text = new StringBuilder();
    int parts = room < 2 ? 1 : 1 + random.nextInt(3);
    for (int i = 0; i < parts; i++) {
      text.append(i > 0 ? " " : "").append(atom(room / parts, scope, i == 0 && parts > 1));
    }
    return text.toString();
  }

  private String atom(int room, String scope, boolean asFunction) {
    String[] functions = {"ref", "!", "hd", "tl", "null", "fst", "snd"};
    String[] constants = {"1", "true", "( )", "nil", "nil", "-5", "false"};
    int choice = random.nextInt(10);
    if (room >= 8 && choice < 3) {
      int half = (room - 3) / 2;
      String decl = declaration(half + 1, scope);
      return "let " + decl + "in " + expression(half, scope + decl.split(" ")[1]) + " end";
    }
    if (room >= 4 && choice < 6) {
      return "( " + expression(room - 2, scope) + " )";
    }
    if (room >= 5 && choice < 8) {
      int half = (room - 3) / 2;
      return "( " + expression(half, scope) + " , " + expression(half, scope) + " )";
    }
    if (choice < 5 || !asFunction && choice < 7) {
      return knownName(scope);
    }
    return asFunction || random.nextInt(6) == 0
        ? functions[random.nextInt(functions.length)] : constants[random.nextInt(constants.length)];
  }

  // ---- Random types ----

  private String type(int depth) {
    String[] atoms = {"int", "bool", "unit", "'a", "'b", "'c", "'d", "'a"};
    switch (depth == 0 ? 9 : random.nextInt(10)) {
      case 0:
        return "( " + type(depth - 1) + " )";
      case 1:
      case 2:
        return type(depth - 1) + " -> " + type(depth - 1);
      case 3:
        return type(depth - 1) + " * " + type(depth - 1);
      case 4:
        return type(depth - 1) + " list";
      case 5:
        return type(depth - 1) + " ref";
      default:
        return atoms[random.nextInt(atoms.length)];
    }
  }

  /** The type of a name with random types for its variables. */
  private String instanceOf(int name) {
    Map<Integer, String> put = new TreeMap<>();
    int[] at = {0};
    return instanceOf(name, at, put);
  }

  private String instanceOf(int name, int[] at, Map<Integer, String> put) {
    int node = oracle.node(name, at[0]++);
    switch (node) {
      case 0:
        return "int";
      case 1:
        return "bool";
      case 2:
        return "unit";
      case 3:
        return "( " + instanceOf(name, at, put) + " ) list";
      case 4:
        return bare(instanceOf(name, at, put)) + " ref";
      case 5:
      case 6:
        String first = bare(instanceOf(name, at, put));
        return first + (node == 5 ? " * " : " -> ") + bare(instanceOf(name, at, put));
      default:
        put.putIfAbsent(node, type(random.nextInt(3) / 2));
        return random.nextInt(12) == 0 ? type(1) : put.get(node);
    }
  }

  private static String bare(String type) {
    return type.contains(" ") ? "( " + type + " )" : type;
  }
}
