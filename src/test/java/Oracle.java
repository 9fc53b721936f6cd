import java.util.ArrayList;
import java.util.Arrays;
import java.util.HashMap;
import java.util.HashSet;
import java.util.List;
import java.util.Map;
import java.util.Set;

/**
 * The document a second time, written quite otherwise: an Earley recogniser over the grammar's text,
 * recursive inference over trees, variables that are bound in place and unbound on a refusal.
 */
final class Oracle {
  static final class Type {
    int shape; // INT .. ARROW, or -1 for a variable
    Type bound;
    List<Type> parts = new ArrayList<>();
  }

  static final class Binding {
    String name;
    Type type;
    Set<Type> general = new HashSet<>();
    Binding outer;
  }

  static final class Clash extends RuntimeException {
    private static final long serialVersionUID = 1L;
    final int place;

    Clash(int place) {
      this.place = place;
    }
  }

  static final class Tree {
    String what;
    int place;
    int first;
    List<Tree> parts = new ArrayList<>();
    List<Integer> binders = new ArrayList<>();
  }

  private static final String[] GRAMMAR = {
    "decl : val NAME = expr", "decl : fun NAME NAME names = expr", "names :", "names : NAME names",
    "expr : fn NAME => expr", "expr : if expr then expr else expr", "expr : asgn",
    "asgn : cons", "asgn : cons := asgn", "cons : cmp", "cons : cmp :: cons",
    "cmp : sum", "cmp : cmp < sum", "sum : app", "sum : sum + app", "sum : sum - app",
    "app : atom", "app : app atom",
    "atom : INT", "atom : true", "atom : false", "atom : nil", "atom : NAME", "atom : ref", "atom : !",
    "atom : hd", "atom : tl", "atom : null", "atom : fst", "atom : snd", "atom : ( )",
    "atom : ( expr )", "atom : ( expr , expr )", "atom : let decl in expr end",
    "type : prod", "type : prod -> type", "prod : post", "prod : post * prod",
    "post : patom", "post : post list", "post : post ref",
    "patom : int", "patom : bool", "patom : unit", "patom : TVAR", "patom : ( type )",
  };

  private static final String[][] RULES =
      Arrays.stream(GRAMMAR).map(text -> text.split(" ")).toArray(String[][]::new);

  private static final int ONE_FURTHER = 100;

  private final List<int[]> tokens = new ArrayList<>();
  private final Binding[] declared = new Binding[12];
  private int accepted = 0;
  private int lastPlace = -1;
  private final List<Type> trail = new ArrayList<>();
  private int at;

  boolean token(int kind, int value) {
    boolean good = kind >= 0 && kind <= 37 && tokens.size() < 24;
    good = good && !(kind == 3 && (value < 0 || value > 11)) && !(kind == 35 && (value < 0 || value > 3));
    if (good) {
      tokens.add(new int[] {kind, value});
    }
    return good;
  }

  int wipe() {
    int count = tokens.size();
    tokens.clear();
    return count;
  }

  int place() {
    return lastPlace;
  }

  int reset() {
    Arrays.fill(declared, null);
    int count = accepted;
    accepted = 0;
    return count;
  }

  int size(int name) {
    return nodes(name).size();
  }

  int node(int name, int k) {
    List<Integer> nodes = nodes(name);
    return k < 0 || k >= nodes.size() ? -1 : nodes.get(k);
  }

  int declare() {
    lastPlace = -1;
    trail.clear();
    if (accepted == 20) {
      return 5;
    }
    int fault = firstBad("decl");
    if (fault >= 0) {
      lastPlace = fault;
      return 1;
    }
    at = 0;
    Tree tree = decl();
    int unbound = unbound(tree, new ArrayList<>());
    if (unbound < Integer.MAX_VALUE) {
      lastPlace = unbound;
      return 2;
    }
    try {
      return accept(inferDecl(tree, null));
    } catch (Clash clash) {
      undo();
      lastPlace = clash.place;
      return 3;
    }
  }

  /** What declare() would answer to these tokens, changing nothing. */
  int wouldDeclare(List<int[]> instead) {
    List<int[]> tokensBefore = new ArrayList<>(tokens);
    Binding[] declaredBefore = declared.clone();
    int acceptedBefore = accepted;
    int placeBefore = lastPlace;
    tokens.clear();
    tokens.addAll(instead);
    int answer = declare();
    undo();
    tokens.clear();
    tokens.addAll(tokensBefore);
    System.arraycopy(declaredBefore, 0, declared, 0, declared.length);
    accepted = acceptedBefore;
    lastPlace = placeBefore;
    return answer;
  }

  private int accept(Binding made) {
    int name = tokens.get(1)[1];
    Binding before = declared[name];
    declared[name] = made;
    for (Binding one : declared) {
      if (one != null && count(one.type) > 12) {
        declared[name] = before;
        undo();
        lastPlace = tokens.size();
        return 4;
      }
    }
    accepted++;
    tokens.clear();
    return 0;
  }

  int fits(int name) {
    lastPlace = -1;
    int fault = firstBad("type");
    if (fault >= 0) {
      lastPlace = fault;
      return 1;
    }
    if (name < 0 || name > 11 || declared[name] == null) {
      return 2;
    }
    at = 0;
    return matches(declared[name].type, declared[name].general, spelledType(), new HashMap<>()) ? 0 : 6;
  }

  // ---- Syntax ----

  private String word(int i) {
    return Checks.WORDS.get(tokens.get(i)[0]);
  }

  /** Earley: an item is a rule, a dot and an origin; an empty set shows the first bad token. */
  private int firstBad(String goal) {
    List<List<Integer>> sets = new ArrayList<>();
    sets.add(new ArrayList<>());
    predict(sets.get(0), goal, 0);
    for (int i = 0; ; i++) {
      close(sets, i);
      if (i == tokens.size()) {
        return complete(sets.get(i), goal) ? -1 : i;
      }
      List<Integer> next = new ArrayList<>();
      for (int item : sets.get(i)) {
        if (word(i).equals(behindDot(item))) {
          next.add(item + ONE_FURTHER);
        }
      }
      if (next.isEmpty()) {
        return i;
      }
      sets.add(next);
    }
  }

  private static String[] rule(int item) {
    return RULES[item / 1000];
  }

  private static int origin(int item) {
    return item % 100;
  }

  private static String behindDot(int item) {
    int at = item / ONE_FURTHER % 10 + 2;
    return at < rule(item).length ? rule(item)[at] : "";
  }

  private static void addOnce(List<Integer> set, int item) {
    if (!set.contains(item)) {
      set.add(item);
    }
  }

  private static void predict(List<Integer> set, String symbol, int here) {
    for (int r = 0; r < RULES.length; r++) {
      if (RULES[r][0].equals(symbol)) {
        addOnce(set, r * 1000 + here);
      }
    }
  }

  private static void close(List<List<Integer>> sets, int here) {
    List<Integer> set = sets.get(here);
    for (int i = 0; i < set.size(); i++) {
      int item = set.get(i);
      String symbol = behindDot(item);
      if (symbol.isEmpty()) {
        List<Integer> started = sets.get(origin(item));
        for (int k = 0; k < started.size(); k++) {
          if (behindDot(started.get(k)).equals(rule(item)[0])) {
            addOnce(set, started.get(k) + ONE_FURTHER);
          }
        }
      } else {
        predict(set, symbol, here);
        if (symbol.equals("names")) {
          // The only symbol that may be nothing: its empty rule may have been completed before.
          addOnce(set, item + ONE_FURTHER);
        }
      }
    }
  }

  private static boolean complete(List<Integer> set, String goal) {
    for (int item : set) {
      if (origin(item) == 0 && behindDot(item).isEmpty() && rule(item)[0].equals(goal)) {
        return true;
      }
    }
    return false;
  }

  // ---- Trees, of tokens known to be right ----

  private boolean next(String... words) {
    return at < tokens.size() && Arrays.asList(words).contains(word(at));
  }

  private static Tree tree(String what, int place, int first, Tree... parts) {
    Tree made = new Tree();
    made.what = what;
    made.place = place;
    made.first = first;
    made.parts.addAll(Arrays.asList(parts));
    return made;
  }

  private Tree decl() {
    Tree made = tree(word(at), 0, at);
    at++;
    while (!next("=")) {
      made.binders.add(at);
      at++;
    }
    made.place = at;
    at++;
    made.parts.add(expr());
    return made;
  }

  private Tree expr() {
    int first = at;
    if (next("fn")) {
      at += 3;
      Tree made = tree("fn", first, first, expr());
      made.binders.add(first + 1);
      return made;
    }
    if (next("if")) {
      Tree made = tree("if", first, first);
      for (int i = 0; i < 3; i++) {
        at++;
        made.parts.add(expr());
      }
      return made;
    }
    return asgn();
  }

  private Tree asgn() {
    Tree left = cons();
    if (next(":=")) {
      int place = at++;
      return tree(":=", place, left.first, left, asgn());
    }
    return left;
  }

  private Tree cons() {
    Tree left = cmp();
    if (next("::")) {
      int place = at++;
      return tree("::", place, left.first, left, cons());
    }
    return left;
  }

  private Tree cmp() {
    Tree left = sum();
    while (next("<")) {
      int place = at++;
      left = tree("<", place, left.first, left, sum());
    }
    return left;
  }

  private Tree sum() {
    Tree left = app();
    while (next("+", "-")) {
      int place = at++;
      left = tree("+", place, left.first, left, app());
    }
    return left;
  }

  private Tree app() {
    Tree left = atom();
    while (next("INT", "true", "false", "nil", "NAME", "ref", "!", "hd", "tl", "null", "fst", "snd",
        "(", "let")) {
      Tree right = atom();
      left = tree("apply", right.first, left.first, left, right);
    }
    return left;
  }

  private Tree atom() {
    int first = at++;
    if (word(first).equals("let")) {
      Tree decl = decl();
      at++;
      Tree rest = expr();
      at++;
      return tree("let", first, first, decl, rest);
    }
    if (!word(first).equals("(")) {
      return tree(word(first), first, first);
    }
    if (next(")")) {
      at++;
      return tree("unit", first, first);
    }
    Tree inner = expr();
    if (next(",")) {
      at++;
      inner = tree("pair", first, first, inner, expr());
    }
    at++;
    return tree("brackets", first, first, inner);
  }

  // ---- Names ----

  private int unbound(Tree tree, List<Integer> scope) {
    int found = Integer.MAX_VALUE;
    if (tree.what.equals("NAME")) {
      int name = tokens.get(tree.place)[1];
      return scope.contains(name) || declared[name] != null ? found : tree.place;
    }
    List<Integer> inner = new ArrayList<>(scope);
    if (!tree.what.equals("val")) {
      for (int binder : tree.binders) {
        inner.add(tokens.get(binder)[1]);
      }
    }
    for (Tree part : tree.parts) {
      found = Math.min(found, unbound(part, inner));
      if (tree.what.equals("let")) {
        inner.add(tokens.get(tree.parts.get(0).binders.get(0))[1]);
      }
    }
    return found;
  }

  // ---- Types ----

  private static Type make(int shape, Type... parts) {
    Type made = new Type();
    made.shape = shape;
    made.parts.addAll(Arrays.asList(parts));
    return made;
  }

  private static Type fresh() {
    return make(-1);
  }

  private static Type look(Type type) {
    return type.bound == null ? type : look(type.bound);
  }

  private void undo() {
    for (Type variable : trail) {
      variable.bound = null;
    }
    trail.clear();
  }

  private static void variables(Type type, Set<Type> into) {
    Type top = look(type);
    if (top.shape == -1) {
      into.add(top);
    }
    for (Type part : top.parts) {
      variables(part, into);
    }
  }

  private void demand(Type one, Type other, int place) {
    Type a = look(one);
    Type b = look(other);
    if (a == b) {
      return;
    }
    if (a.shape == -1) {
      Set<Type> inside = new HashSet<>();
      variables(b, inside);
      if (inside.contains(a)) {
        throw new Clash(place);
      }
      a.bound = b;
      trail.add(a);
    } else if (b.shape == -1) {
      demand(b, a, place);
    } else if (a.shape != b.shape) {
      throw new Clash(place);
    } else {
      for (int i = 0; i < a.parts.size(); i++) {
        demand(a.parts.get(i), b.parts.get(i), place);
      }
    }
  }

  private static Type renew(Type type, Set<Type> general, Map<Type, Type> renewed) {
    Type top = look(type);
    if (top.shape == -1) {
      return general.contains(top) ? renewed.computeIfAbsent(top, key -> fresh()) : top;
    }
    Type made = make(top.shape);
    for (Type part : top.parts) {
      made.parts.add(renew(part, general, renewed));
    }
    return made;
  }

  private Binding bind(int binder, Type type, Binding outer) {
    Binding made = new Binding();
    made.name = "" + tokens.get(binder)[1];
    made.type = type;
    made.outer = outer;
    return made;
  }

  private void notGeneral(Binding binding, Set<Type> into) {
    Set<Type> all = new HashSet<>();
    variables(binding.type, all);
    all.removeAll(binding.general);
    into.addAll(all);
  }

  private Binding inferDecl(Tree decl, Binding scope) {
    Tree body = decl.parts.get(0);
    Type type;
    boolean general = true;
    if (decl.what.equals("val")) {
      type = infer(body, scope);
      general = firm(body);
    } else {
      type = fresh();
      Binding inner = bind(decl.binders.get(0), type, scope);
      List<Type> arguments = new ArrayList<>();
      for (int binder : decl.binders.subList(1, decl.binders.size())) {
        arguments.add(fresh());
        inner = bind(binder, arguments.get(arguments.size() - 1), inner);
      }
      Type whole = infer(body, inner);
      for (int i = arguments.size() - 1; i >= 0; i--) {
        whole = make(6, arguments.get(i), whole);
      }
      demand(type, whole, decl.place);
    }
    Binding made = bind(decl.binders.get(0), type, scope);
    if (general) {
      Set<Type> fixed = new HashSet<>();
      for (Binding around = scope; around != null; around = around.outer) {
        notGeneral(around, fixed);
      }
      for (Binding one : declared) {
        if (one != null) {
          notGeneral(one, fixed);
        }
      }
      variables(type, made.general);
      made.general.removeAll(fixed);
    }
    return made;
  }

  private static boolean firm(Tree tree) {
    switch (tree.what) {
      case "apply": case "+": case "<": case ":=": case "if": case "let":
        return false;
      case "::": case "pair": case "brackets":
        return tree.parts.stream().allMatch(Oracle::firm);
      default:
        return true;
    }
  }

  private Type infer(Tree tree, Binding scope) {
    if (tree.what.equals("fn")) {
      Type argument = fresh();
      return make(6, argument, infer(tree.parts.get(0), bind(tree.binders.get(0), argument, scope)));
    }
    if (tree.what.equals("let")) {
      return infer(tree.parts.get(1), inferDecl(tree.parts.get(0), scope));
    }
    List<Type> parts = new ArrayList<>();
    for (Tree part : tree.parts) {
      parts.add(infer(part, scope));
    }
    Type a = fresh();
    Type b = fresh();
    switch (tree.what) {
      case "INT": return make(0);
      case "true": case "false": return make(1);
      case "unit": return make(2);
      case "nil": return make(3, a);
      case "ref": return make(6, a, make(4, a));
      case "!": return make(6, make(4, a), a);
      case "hd": return make(6, make(3, a), a);
      case "tl": return make(6, make(3, a), make(3, a));
      case "null": return make(6, make(3, a), make(1));
      case "fst": return make(6, make(5, a, b), a);
      case "snd": return make(6, make(5, a, b), b);
      case "brackets": return parts.get(0);
      case "pair": return make(5, parts.get(0), parts.get(1));
      case "NAME": return use(tokens.get(tree.place)[1], scope);
      case "apply":
        demand(parts.get(0), make(6, parts.get(1), b), tree.place);
        return b;
      case "::":
        demand(parts.get(1), make(3, parts.get(0)), tree.place);
        return parts.get(1);
      case ":=":
        demand(parts.get(0), make(4, parts.get(1)), tree.place);
        return make(2);
      case "if":
        demand(parts.get(0), make(1), tree.place);
        demand(parts.get(2), parts.get(1), tree.place);
        return parts.get(1);
      default:
        demand(parts.get(0), make(0), tree.place);
        demand(parts.get(1), make(0), tree.place);
        return make(tree.what.equals("<") ? 1 : 0);
    }
  }

  private Type use(int name, Binding scope) {
    Binding found = scope;
    while (found != null && !found.name.equals("" + name)) {
      found = found.outer;
    }
    found = found == null ? declared[name] : found;
    return renew(found.type, found.general, new HashMap<>());
  }

  private static long count(Type type) {
    Type top = look(type);
    long sum = 1;
    for (Type part : top.parts) {
      sum += count(part);
    }
    return sum;
  }

  // ---- Written out and spelled types ----

  private List<Integer> nodes(int name) {
    List<Type> open = new ArrayList<>();
    List<Integer> nodes = new ArrayList<>();
    for (int i = 0; i <= name && i < 12; i++) {
      nodes.clear();
      if (declared[i] != null) {
        write(declared[i].type, declared[i].general, open, new ArrayList<>(), nodes);
      }
    }
    return name < 0 || name > 11 ? new ArrayList<>() : nodes;
  }

  private static void write(Type type, Set<Type> general, List<Type> open, List<Type> met,
      List<Integer> into) {
    Type top = look(type);
    if (top.shape == -1) {
      List<Type> numbers = general.contains(top) ? met : open;
      if (!numbers.contains(top)) {
        numbers.add(top);
      }
      into.add((general.contains(top) ? 10 : 100) + numbers.indexOf(top));
      return;
    }
    into.add(top.shape);
    for (Type part : top.parts) {
      write(part, general, open, met, into);
    }
  }

  private Type spelledType() {
    Type left = spelledProduct();
    if (next("->")) {
      at++;
      return make(6, left, spelledType());
    }
    return left;
  }

  private Type spelledProduct() {
    Type left = spelledPostfix();
    if (next("*")) {
      at++;
      return make(5, left, spelledProduct());
    }
    return left;
  }

  private Type spelledPostfix() {
    Type made;
    int first = at++;
    if (word(first).equals("(")) {
      made = spelledType();
      at++;
    } else if (word(first).equals("TVAR")) {
      made = make(50 + tokens.get(first)[1]);
    } else {
      made = make(Arrays.asList("int", "bool", "unit").indexOf(word(first)));
    }
    while (next("list", "ref")) {
      made = make(word(at++).equals("list") ? 3 : 4, made);
    }
    return made;
  }

  private static boolean same(Type one, Type other) {
    if (one.shape != other.shape) {
      return false;
    }
    for (int i = 0; i < one.parts.size(); i++) {
      if (!same(one.parts.get(i), other.parts.get(i))) {
        return false;
      }
    }
    return true;
  }

  private static boolean matches(Type own, Set<Type> general, Type spelled, Map<Type, Type> put) {
    Type top = look(own);
    if (top.shape == -1) {
      if (!general.contains(top)) {
        return false;
      }
      Type before = put.putIfAbsent(top, spelled);
      return before == null || same(before, spelled);
    }
    if (top.shape != spelled.shape) {
      return false;
    }
    for (int i = 0; i < top.parts.size(); i++) {
      if (!matches(top.parts.get(i), general, spelled.parts.get(i), put)) {
        return false;
      }
    }
    return true;
  }
}
