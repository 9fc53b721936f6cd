import java.util.Arrays;
import java.util.List;

/** What the tests share: counting wrong answers, and tokens written as text. */
final class Checks {
  /** The tokens' words by kind; INT, NAME and TVAR are written 7, a .. l and 'a .. 'd. */
  static final List<String> WORDS = Arrays.asList(
      "INT", "true", "false", "NAME", "fn", "=>", "let", "val", "fun", "=", "in", "end", "if", "then",
      "else", "(", ")", ",", "::", "+", "-", "<", "nil", "ref", "!", ":=", "hd", "tl", "null", "fst",
      "snd", "int", "bool", "unit", "list", "TVAR", "*", "->");

  private static final int SHOWN = 40;
  private static int wrong = 0;

  private Checks() {
  }

  static void due(String what, Object got, Object want) {
    if (!got.equals(want)) {
      wrong++;
      if (wrong <= SHOWN) {
        System.out.println(what + " answered " + got + ", due is " + want);
      }
    }
  }

  static void finish() {
    if (wrong > 0) {
      System.out.println(wrong + " wrong answers");
      System.exit(1);
    }
  }

  static boolean isClean() {
    return wrong == 0;
  }

  static int kindOf(String word) {
    if (word.matches("-?[0-9]+")) {
      return 0;
    }
    if (word.matches("[a-l]")) {
      return 3;
    }
    if (word.matches("'[a-d]")) {
      return 35;
    }
    int kind = WORDS.indexOf(word);
    if (kind < 0) {
      throw new IllegalArgumentException("no token: " + word);
    }
    return kind;
  }

  static int valueOf(String word) {
    switch (kindOf(word)) {
      case 0:
        return Integer.parseInt(word);
      case 3:
        return word.charAt(0) - 'a';
      case 35:
        return word.charAt(1) - 'a';
      default:
        return 0;
    }
  }

  static void spell(OpenTypeSession session, String text) {
    for (String word : text.trim().split(" +")) {
      if (!word.isEmpty() && !session.token(kindOf(word), valueOf(word))) {
        due("token " + word + " of " + text, false, true);
      }
    }
  }

  /** Wipes, spells and declares; answers as "OK" or "CLASH 4", with the place. */
  static String declare(OpenTypeSession session, String text) {
    session.wipe();
    spell(session, text);
    return declareAsIs(session);
  }

  /** Declares the tokens that are there. */
  static String declareAsIs(OpenTypeSession session) {
    return withPlace(session.declare(), session.place());
  }

  static String fits(OpenTypeSession session, String name, String type) {
    session.wipe();
    spell(session, type);
    return fitsAsIs(session, valueOf(name));
  }

  /** Asks whether a name, which may be none, fits the tokens that are there. */
  static String fitsAsIs(OpenTypeSession session, int name) {
    return withPlace(session.fits(name), session.place());
  }

  private static String withPlace(int answer, int place) {
    String[] answers = {"OK", "SYNTAX", "UNBOUND", "CLASH", "LARGE", "FULL", "NO"};
    return answers[answer] + (place == -1 ? "" : " " + place);
  }

  /** A type as its nodes in order: ARROW is ->, PAIR *, general variables A .. , open ones ?0 .. */
  static String type(OpenTypeSession session, String name) {
    int number = valueOf(name);
    int size = session.size(number);
    StringBuilder text = new StringBuilder();
    for (int k = 0; k < size; k++) {
      text.append(k > 0 ? " " : "").append(nodeText(session.node(number, k)));
    }
    due("the node behind the last one of " + name, session.node(number, size), -1);
    return text.toString();
  }

  /** All that size and node tell: the types of the declared names, each behind its letter. */
  static String types(OpenTypeSession session) {
    StringBuilder text = new StringBuilder();
    for (char name = 'a'; name <= 'l'; name++) {
      String type = type(session, String.valueOf(name));
      text.append(type.isEmpty() ? "" : name + ": " + type + "; ");
    }
    return text.toString();
  }

  /** A session in which these were declared, each of them accepted. */
  static OpenTypeSession sessionWith(String... declarations) {
    OpenTypeSession session = new OpenTypeSession();
    for (String text : declarations) {
      dueDeclare(session, text, "OK");
    }
    return session;
  }

  static int countWords(String text) {
    return text.trim().isEmpty() ? 0 : text.trim().split(" +").length;
  }

  private static String nodeText(int node) {
    String[] shapes = {"int", "bool", "unit", "list", "ref", "*", "->"};
    if (node >= 100) {
      return "?" + (node - 100);
    }
    if (node >= 10) {
      return String.valueOf((char) ('A' + node - 10));
    }
    return node >= 0 && node < shapes.length ? shapes[node] : "bad" + node;
  }

  /** Declares in a session and looks at the answer. */
  static void dueDeclare(OpenTypeSession session, String text, String want) {
    due("declare " + text, declare(session, text), want);
  }

  /** Declares text, which must be accepted, and looks at the type of its name. */
  static void dueType(OpenTypeSession session, String text, String want) {
    due("declare " + text, declare(session, text), "OK");
    due("type of " + text, type(session, text.trim().split(" +")[1]), want);
  }

  static void dueTypeOf(OpenTypeSession session, String name, String want) {
    due("type of " + name, type(session, name), want);
  }

  static void dueFits(OpenTypeSession session, String name, String type, String want) {
    due("fits " + name + ": " + type, fits(session, name, type), want);
  }
}
