/**
 * An interactive typer for a small functional language in the manner of ML.
 *
 * <p>A declaration is parsed into a list of steps in the order in which its demands come. The names
 * are looked up and the types are inferred by walking that list. All work on types happens on nodes
 * that are thrown away afterwards; the declared types are held apart, written out as node() answers
 * them, so that a refused declaration has nothing to undo.
 */
public final class OpenTypeSession {
  public static final int OK = 0, SYNTAX = 1, UNBOUND = 2, CLASH = 3, LARGE = 4, FULL = 5, NO = 6;
  public static final int INT = 0, BOOL = 1, UNIT = 2, LIST = 3, REF = 4, PAIR = 5, ARROW = 6,
      GENERAL = 10, OPEN = 100;

  private static final int MAX_TOKENS = 24, MAX_DECLARATIONS = 20, MAX_SIZE = 12;
  private static final int NAMES = 12, TVARS = 4, ALL_SIZES = 144;

  // The kinds of tokens.
  private static final int T_INT = 0, T_TRUE = 1, T_FALSE = 2, T_NAME = 3, T_FN = 4, T_GIVES = 5,
      T_LET = 6, T_VAL = 7, T_FUN = 8, T_EQUALS = 9, T_IN = 10, T_END = 11, T_IF = 12, T_THEN = 13,
      T_ELSE = 14, T_OPENING = 15, T_CLOSING = 16, T_COMMA = 17, T_CONS = 18, T_PLUS = 19,
      T_MINUS = 20, T_LESS = 21, T_NIL = 22, T_REF = 23, T_BANG = 24, T_ASSIGN = 25, T_HD = 26,
      T_TL = 27, T_NULL = 28, T_FST = 29, T_SND = 30, T_INT_TYPE = 31, T_BOOL_TYPE = 32,
      T_UNIT_TYPE = 33, T_LIST_TYPE = 34, T_TVAR = 35, T_STAR = 36, T_ARROW = 37;
  private static final int TOKEN_KINDS = 38, NO_TOKEN = -1;

  // The parser's symbols behind the token kinds. The tails of an expression stand from the loosest
  // operator to the tightest, then the atom, so that a range of them is a grammar level; the same
  // holds for the tails of a type.
  private static final int DECL = 40, MORE_NAMES = 41, EXPR = 42, IN_BRACKETS = 43,
      BRACKET_END = 44, TYPE = 45;
  private static final int ASSIGN_TAIL = 50, CONS_TAIL = 51, LESS_TAIL = 52, SUM_TAIL = 53,
      APPLY_TAIL = 54, ATOM = 55;
  private static final int ARROW_TAIL = 60, STAR_TAIL = 61, POSTFIX_TAIL = 62, TYPE_ATOM = 63;

  // The steps that the parser writes; each has the place of a token.
  private static final int DO_ATOM = 80, DO_UNIT = 81, DO_APPLY = 82, DO_OPERATOR = 83, DO_IF = 84,
      DO_FN_BEGIN = 85, DO_FN_END = 86, DO_FUN_BEGIN = 87, DO_FUN_END = 88, DO_VAL = 89,
      DO_LET_END = 90;
  private static final int FIRST_STEP = DO_ATOM;

  // Shapes of nodes beside INT .. ARROW. ALIEN is an open variable that fits must not settle.
  private static final int VARIABLE = 7, GENERIC = 8, ALIEN = 9, FIRST_TVAR = 10;

  // A token writes at most two steps and leaves some ten symbols waiting at most.
  private static final int MAX_STEPS = 64, MAX_SYMBOLS = 512, PARSE_TURNS = 100000;
  // 24 tokens make some 1300 nodes at most: the uses of one let's name are what makes most of them.
  private static final int MAX_NODES = 4096;

  private final int[] kinds = new int[MAX_TOKENS];
  private final int[] values = new int[MAX_TOKENS];
  private int tokenCount = 0;

  private int accepted = 0;
  private int lastPlace = -1;

  // The declared types as node() answers them, MAX_SIZE cells a name; size 0: not declared.
  private final int[] declaredSize = new int[NAMES];
  private final int[] declaredNodes = new int[ALL_SIZES];
  private int openCount = 0;

  // What the declared types would be after the declaration at hand.
  private final int[] draftSize = new int[NAMES];
  private final int[] draftNodes = new int[ALL_SIZES];
  private int draftOpen = 0;

  private final int[] symbols = new int[MAX_SYMBOLS];
  private final int[] symbolPlaces = new int[MAX_SYMBOLS];
  private int symbolCount = 0;
  private final int[] steps = new int[MAX_STEPS];
  private final int[] stepPlaces = new int[MAX_STEPS];
  private int stepCount = 0;

  // A binding is known by the place of the NAME token that binds; the innermost stands last.
  private final int[] bindings = new int[MAX_TOKENS];
  private int bindingCount = 0;
  private final int[] boundType = new int[MAX_TOKENS];

  // The types of the parts that are done and wait for the expression around them.
  private final int[] waitingTypes = new int[MAX_STEPS];
  private final boolean[] waitingFirm = new boolean[MAX_STEPS];
  private int waitingCount = 0;
  private int clashPlace = -1;

  // Nodes of types. A node whose link is another node stands for that one. A list or ref has its
  // part on both sides, so that only writing out has to tell it from a pair.
  private final int[] shape = new int[MAX_NODES];
  private final int[] left = new int[MAX_NODES];
  private final int[] right = new int[MAX_NODES];
  private final int[] link = new int[MAX_NODES];
  private final int[] note = new int[MAX_NODES];
  private int nodeCount = 0;

  private final int[] todo = new int[MAX_NODES];
  private final int[] todoOther = new int[MAX_NODES];
  private int todoCount = 0;
  private final int[] generalNode = new int[MAX_SIZE];

  public OpenTypeSession() {
  }

  public boolean token(int kind, int value) {
    if (kind < 0 || kind >= TOKEN_KINDS || tokenCount >= MAX_TOKENS) {
      return false;
    }
    if (kind == T_NAME && !isName(value)) {
      return false;
    }
    if (kind == T_TVAR && (value < 0 || value >= TVARS)) {
      return false;
    }
    kinds[tokenCount] = kind;
    values[tokenCount] = value;
    tokenCount++;
    return true;
  }

  public int wipe() {
    int removed = tokenCount;
    tokenCount = 0;
    return removed;
  }

  public int declare() {
    lastPlace = -1;
    if (accepted >= MAX_DECLARATIONS) {
      return FULL;
    }
    int fault = syntaxFault(DECL);
    if (fault >= 0) {
      return refuse(SYNTAX, fault);
    }
    fault = nameFault();
    if (fault >= 0) {
      return refuse(UNBOUND, fault);
    }
    fault = typeFault();
    if (fault >= 0) {
      return refuse(CLASH, fault);
    }
    if (!draftTypes()) {
      return refuse(LARGE, tokenCount);
    }
    keepDraft();
    return OK;
  }

  public int place() {
    return lastPlace;
  }

  public int reset() {
    int forgotten = accepted;
    accepted = 0;
    openCount = 0;
    for (int name = 0; name < NAMES; name++) {
      declaredSize[name] = 0;
    }
    return forgotten;
  }

  public int size(int name) {
    return isName(name) ? declaredSize[name] : 0;
  }

  public int node(int name, int k) {
    if (!isName(name) || k < 0 || k >= declaredSize[name]) {
      return -1;
    }
    return declaredNodes[name * MAX_SIZE + k];
  }

  public int fits(int name) {
    lastPlace = -1;
    int fault = syntaxFault(TYPE);
    if (fault >= 0) {
      return refuse(SYNTAX, fault);
    }
    if (!isName(name) || declaredSize[name] == 0) {
      return UNBOUND;
    }
    // Alien nodes and TVARs equal only themselves, so making equal settles general variables alone.
    beginNodes(ALIEN);
    int spelled = buildSpelled();
    int own = buildDeclared(name, VARIABLE);
    return makeEqual(own, spelled) ? OK : NO;
  }

  private boolean isName(int value) {
    return value >= 0 && value < NAMES;
  }

  private int refuse(int answer, int where) {
    lastPlace = where;
    return answer;
  }

  // ---- Parsing ----

  /** The place where the tokens stop being a beginning of the goal, or -1 if they are one whole. */
  private int syntaxFault(int goal) {
    symbolCount = 0;
    stepCount = 0;
    expect(goal, 0);
    int at = 0;
    for (int turn = 0; turn < PARSE_TURNS && symbolCount > 0; turn++) {
      symbolCount--;
      int symbol = symbols[symbolCount];
      if (symbol >= FIRST_STEP) {
        writeStep(symbol, symbolPlaces[symbolCount]);
      } else if (symbol >= TOKEN_KINDS) {
        if (!expand(symbol, at)) {
          return at;
        }
      } else if (kindAt(at) == symbol) {
        at++;
      } else {
        return at;
      }
    }
    return at < tokenCount ? at : -1;
  }

  private int kindAt(int at) {
    return at >= 0 && at < tokenCount ? kinds[at] : NO_TOKEN;
  }

  /** Puts a symbol before all that wait: of several, the one that comes first is put last. */
  private void expect(int symbol, int where) {
    if (symbolCount < MAX_SYMBOLS) {
      symbols[symbolCount] = symbol;
      symbolPlaces[symbolCount] = where;
      symbolCount++;
    }
  }

  private void expectRange(int first, int last) {
    for (int symbol = first; symbol <= last; symbol++) {
      expect(symbol, 0);
    }
  }

  private void writeStep(int step, int where) {
    if (stepCount < MAX_STEPS) {
      steps[stepCount] = step;
      stepPlaces[stepCount] = where;
      stepCount++;
    }
  }

  /** Replaces a symbol by what it consists of if the token at this place comes next. */
  private boolean expand(int symbol, int at) {
    int kind = kindAt(at);
    switch (symbol) {
      case DECL:
        return expandDecl(kind, at);
      case MORE_NAMES:
        if (kind == T_NAME) {
          expect(MORE_NAMES, 0);
          expect(T_NAME, 0);
        }
        return true;
      case EXPR:
        expandExpr(kind, at);
        return true;
      case ATOM:
        return expandAtom(kind, at);
      case IN_BRACKETS:
      case BRACKET_END:
        expandBrackets(symbol, kind, at);
        return true;
      case TYPE:
        expectRange(ARROW_TAIL, TYPE_ATOM);
        return true;
      case TYPE_ATOM:
        return expandTypeAtom(kind, at);
      case ARROW_TAIL:
      case STAR_TAIL:
      case POSTFIX_TAIL:
        expandTypeTail(symbol, kind, at);
        return true;
      default:
        expandTail(symbol, kind, at);
        return true;
    }
  }

  private boolean expandDecl(int kind, int at) {
    if (kind == T_VAL) {
      expect(DO_VAL, at);
      expect(EXPR, 0);
      expect(T_EQUALS, 0);
    } else if (kind == T_FUN) {
      expect(DO_FUN_END, at);
      expect(EXPR, 0);
      expect(DO_FUN_BEGIN, at);
      expect(T_EQUALS, 0);
      expect(MORE_NAMES, 0);
      expect(T_NAME, 0);
    } else {
      return false;
    }
    expect(T_NAME, 0);
    expect(kind, 0);
    return true;
  }

  private void expandExpr(int kind, int at) {
    if (kind == T_FN) {
      expect(DO_FN_END, at);
      expect(EXPR, 0);
      expect(DO_FN_BEGIN, at);
      expect(T_GIVES, 0);
      expect(T_NAME, 0);
      expect(T_FN, 0);
    } else if (kind == T_IF) {
      expect(DO_IF, at);
      expect(EXPR, 0);
      expect(T_ELSE, 0);
      expect(EXPR, 0);
      expect(T_THEN, 0);
      expect(EXPR, 0);
      expect(T_IF, 0);
    } else {
      expectRange(ASSIGN_TAIL, ATOM);
    }
  }

  private void expandTail(int symbol, int kind, int at) {
    if (symbol == ASSIGN_TAIL && kind == T_ASSIGN) {
      expect(DO_OPERATOR, at);
      expectRange(ASSIGN_TAIL, ATOM);
      expect(kind, 0);
    } else if (symbol == CONS_TAIL && kind == T_CONS) {
      expect(DO_OPERATOR, at);
      expectRange(CONS_TAIL, ATOM);
      expect(kind, 0);
    } else if (symbol == LESS_TAIL && kind == T_LESS) {
      expect(LESS_TAIL, 0);
      expect(DO_OPERATOR, at);
      expectRange(SUM_TAIL, ATOM);
      expect(kind, 0);
    } else if (symbol == SUM_TAIL && (kind == T_PLUS || kind == T_MINUS)) {
      expect(SUM_TAIL, 0);
      expect(DO_OPERATOR, at);
      expectRange(APPLY_TAIL, ATOM);
      expect(kind, 0);
    } else if (symbol == APPLY_TAIL && beginsAtom(kind)) {
      expect(APPLY_TAIL, 0);
      expect(DO_APPLY, at);
      expect(ATOM, 0);
    }
  }

  private boolean isAtomAlone(int kind) {
    switch (kind) {
      case T_INT:
      case T_TRUE:
      case T_FALSE:
      case T_NAME:
      case T_NIL:
      case T_REF:
      case T_BANG:
      case T_HD:
      case T_TL:
      case T_NULL:
      case T_FST:
      case T_SND:
        return true;
      default:
        return false;
    }
  }

  private boolean beginsAtom(int kind) {
    return kind == T_OPENING || kind == T_LET || isAtomAlone(kind);
  }

  private boolean expandAtom(int kind, int at) {
    if (isAtomAlone(kind)) {
      expect(DO_ATOM, at);
      expect(kind, 0);
    } else if (kind == T_OPENING) {
      expect(IN_BRACKETS, 0);
      expect(T_OPENING, 0);
    } else if (kind == T_LET) {
      expect(DO_LET_END, at);
      expect(T_END, 0);
      expect(EXPR, 0);
      expect(T_IN, 0);
      expect(DECL, 0);
      expect(T_LET, 0);
    } else {
      return false;
    }
    return true;
  }

  private void expandBrackets(int symbol, int kind, int at) {
    if (symbol == IN_BRACKETS && kind == T_CLOSING) {
      expect(DO_UNIT, at);
      expect(T_CLOSING, 0);
    } else if (symbol == IN_BRACKETS) {
      expect(BRACKET_END, 0);
      expect(EXPR, 0);
    } else if (kind == T_COMMA) {
      expect(DO_OPERATOR, at);
      expect(T_CLOSING, 0);
      expect(EXPR, 0);
      expect(T_COMMA, 0);
    } else {
      expect(T_CLOSING, 0);
    }
  }

  private boolean expandTypeAtom(int kind, int at) {
    if (kind == T_OPENING) {
      expect(T_CLOSING, 0);
      expect(TYPE, 0);
      expect(T_OPENING, 0);
      return true;
    }
    if (kind == T_INT_TYPE || kind == T_BOOL_TYPE || kind == T_UNIT_TYPE || kind == T_TVAR) {
      expect(DO_ATOM, at);
      expect(kind, 0);
      return true;
    }
    return false;
  }

  private void expandTypeTail(int symbol, int kind, int at) {
    if (symbol == ARROW_TAIL && kind == T_ARROW) {
      expect(DO_OPERATOR, at);
      expectRange(ARROW_TAIL, TYPE_ATOM);
      expect(kind, 0);
    } else if (symbol == STAR_TAIL && kind == T_STAR) {
      expect(DO_OPERATOR, at);
      expectRange(STAR_TAIL, TYPE_ATOM);
      expect(kind, 0);
    } else if (symbol == POSTFIX_TAIL && (kind == T_LIST_TYPE || kind == T_REF)) {
      expect(POSTFIX_TAIL, 0);
      expect(DO_OPERATOR, at);
      expect(kind, 0);
    }
  }

  // ---- Names ----

  /** The place of the first NAME that means nothing, or -1. */
  private int nameFault() {
    bindingCount = 0;
    for (int i = 0; i < stepCount; i++) {
      int at = stepPlaces[i];
      bindAndUnbind(steps[i], at);
      if (steps[i] == DO_ATOM && kinds[at] == T_NAME) {
        int binding = bindingOf(values[at]);
        if (binding < 0 && declaredSize[values[at]] == 0) {
          return at;
        }
      }
    }
    return -1;
  }

  /** Brings the bindings to where they are behind a step; a NAME just completed stands last. */
  private void bindAndUnbind(int step, int at) {
    switch (step) {
      case DO_FN_BEGIN:
      case DO_VAL:
        bind(at + 1);
        break;
      case DO_FUN_BEGIN:
        int end = equalsBehind(at);
        for (int binder = at + 1; binder < end; binder++) {
          bind(binder);
        }
        break;
      case DO_FUN_END:
        int equalsAt = equalsBehind(at);
        unbind(equalsAt - at - 1);
        bind(at + 1);
        break;
      case DO_FN_END:
      case DO_LET_END:
        unbind(1);
        break;
      default:
        break;
    }
  }

  private void bind(int binder) {
    if (bindingCount < MAX_TOKENS) {
      bindings[bindingCount] = binder;
      bindingCount++;
    }
  }

  private void unbind(int count) {
    bindingCount = bindingCount > count ? bindingCount - count : 0;
  }

  /** The place of the innermost binder of a name, or -1. */
  private int bindingOf(int name) {
    for (int i = bindingCount - 1; i >= 0; i--) {
      if (values[bindings[i]] == name) {
        return bindings[i];
      }
    }
    return -1;
  }

  private int equalsBehind(int at) {
    for (int i = at; i < tokenCount; i++) {
      if (kinds[i] == T_EQUALS) {
        return i;
      }
    }
    return tokenCount;
  }

  // ---- Types of expressions ----

  /** The place of the first demand that can't be met, or -1. */
  private int typeFault() {
    beginNodes(VARIABLE);
    bindingCount = 0;
    waitingCount = 0;
    clashPlace = -1;
    for (int i = 0; i < stepCount && clashPlace < 0; i++) {
      int at = stepPlaces[i];
      bindAndUnbind(steps[i], at);
      switch (steps[i]) {
        case DO_ATOM:
          inferAtom(at);
          break;
        case DO_UNIT:
          inferUnit();
          break;
        case DO_APPLY:
          inferApply(at);
          break;
        case DO_OPERATOR:
          inferOperator(at);
          break;
        case DO_IF:
          inferIf(at);
          break;
        case DO_FN_BEGIN:
          boundType[at + 1] = newNode(VARIABLE, 0, 0);
          break;
        case DO_FN_END:
          inferFn(at);
          break;
        case DO_FUN_BEGIN:
          beginFun(at);
          break;
        case DO_FUN_END:
          completeFun(at);
          break;
        case DO_VAL:
          completeVal(at);
          break;
        default:
          // A let has the type that waits already, but it is never firm.
          setTopFirm(false);
          break;
      }
    }
    return clashPlace;
  }

  private void pushType(int type, boolean firm) {
    if (waitingCount < MAX_STEPS) {
      waitingTypes[waitingCount] = type;
      waitingFirm[waitingCount] = firm;
      waitingCount++;
    }
  }

  private int popType() {
    if (waitingCount > 0) {
      waitingCount--;
    }
    return waitingTypes[waitingCount];
  }

  private boolean isTopFirm() {
    return waitingCount > 0 && waitingFirm[waitingCount - 1];
  }

  private void setTopFirm(boolean firm) {
    if (waitingCount > 0) {
      waitingFirm[waitingCount - 1] = firm;
    }
  }

  private void inferAtom(int at) {
    int binding = kinds[at] == T_NAME ? bindingOf(values[at]) : -1;
    int type;
    if (binding >= 0) {
      type = instance(boundType[binding]);
    } else if (kinds[at] == T_NAME) {
      type = buildDeclared(values[at], VARIABLE);
    } else {
      type = typeOfConstant(kinds[at]);
    }
    pushType(type, true);
  }

  private void inferUnit() {
    int type = newNode(UNIT, 0, 0);
    pushType(type, true);
  }

  private int typeOfConstant(int kind) {
    if (kind == T_INT) {
      return newNode(INT, 0, 0);
    }
    if (kind == T_TRUE || kind == T_FALSE) {
      return newNode(BOOL, 0, 0);
    }
    int part = newNode(VARIABLE, 0, 0);
    if (kind == T_FST || kind == T_SND) {
      int other = newNode(VARIABLE, 0, 0);
      int pair = newNode(PAIR, part, other);
      return newNode(ARROW, pair, kind == T_FST ? part : other);
    }
    int whole = newNode(kind == T_REF || kind == T_BANG ? REF : LIST, part, part);
    switch (kind) {
      case T_REF:
        return newNode(ARROW, part, whole);
      case T_BANG:
      case T_HD:
        return newNode(ARROW, whole, part);
      case T_TL:
        return newNode(ARROW, whole, whole);
      case T_NULL:
        int truth = newNode(BOOL, 0, 0);
        return newNode(ARROW, whole, truth);
      default:
        return whole;
    }
  }

  private void inferApply(int at) {
    int argument = popType();
    int function = popType();
    int result = newNode(VARIABLE, 0, 0);
    int wanted = newNode(ARROW, argument, result);
    demand(function, wanted, at);
    pushType(result, false);
  }

  private void inferOperator(int at) {
    boolean firm = isTopFirm();
    int second = popType();
    firm = firm && isTopFirm();
    int first = popType();
    switch (kinds[at]) {
      case T_COMMA:
        int pair = newNode(PAIR, first, second);
        pushType(pair, firm);
        break;
      case T_CONS:
        int list = newNode(LIST, first, first);
        demand(second, list, at);
        pushType(second, firm);
        break;
      case T_ASSIGN:
        int cell = newNode(REF, second, second);
        demand(first, cell, at);
        int unit = newNode(UNIT, 0, 0);
        pushType(unit, false);
        break;
      default:
        int number = newNode(INT, 0, 0);
        demand(first, number, at);
        demand(second, number, at);
        int result = newNode(kinds[at] == T_LESS ? BOOL : INT, 0, 0);
        pushType(result, false);
        break;
    }
  }

  private void inferIf(int at) {
    int otherwise = popType();
    int chosen = popType();
    int condition = popType();
    int truth = newNode(BOOL, 0, 0);
    demand(condition, truth, at);
    demand(otherwise, chosen, at);
    pushType(chosen, false);
  }

  private void inferFn(int at) {
    int body = popType();
    int type = newNode(ARROW, boundType[at + 1], body);
    pushType(type, true);
  }

  private void beginFun(int at) {
    int equalsAt = equalsBehind(at);
    for (int binder = at + 1; binder < equalsAt; binder++) {
      boundType[binder] = newNode(VARIABLE, 0, 0);
    }
  }

  private void completeFun(int at) {
    int equalsAt = equalsBehind(at);
    int type = popType();
    for (int binder = equalsAt - 1; binder > at + 1; binder--) {
      type = newNode(ARROW, boundType[binder], type);
    }
    demand(boundType[at + 1], type, equalsAt);
    generalise(boundType[at + 1]);
  }

  private void completeVal(int at) {
    boolean firm = isTopFirm();
    boundType[at + 1] = popType();
    if (firm) {
      generalise(boundType[at + 1]);
    }
  }

  private void demand(int type, int wanted, int at) {
    if (clashPlace >= 0) {
      return;
    }
    if (!makeEqual(type, wanted) || containsItself(wanted)) {
      clashPlace = at;
    }
  }

  /** Makes the variables of a type general that are neither open nor fixed by a binding around. */
  private void generalise(int type) {
    clearNotes();
    todoCount = 0;
    for (int open = 0; open < openCount; open++) {
      int top = find(open);
      reach(top);
    }
    // The last binding is the one being completed: it is not around itself.
    for (int i = 0; i < bindingCount - 1; i++) {
      int top = find(boundType[bindings[i]]);
      reach(top);
    }
    reachParts(0);
    int fixedCount = todoCount;
    int wholeType = find(type);
    reach(wholeType);
    reachParts(fixedCount);
    for (int i = fixedCount; i < todoCount; i++) {
      if (shape[todo[i]] == VARIABLE) {
        shape[todo[i]] = GENERIC;
      }
    }
  }

  private void reach(int top) {
    if (note[top] == 0 && todoCount < MAX_NODES) {
      note[top] = 1;
      todo[todoCount] = top;
      todoCount++;
    }
  }

  private void reachParts(int from) {
    for (int i = from; i < todoCount && i < MAX_NODES; i++) {
      if (hasParts(todo[i])) {
        int first = find(left[todo[i]]);
        int second = find(right[todo[i]]);
        reach(first);
        reach(second);
      }
    }
  }

  // ---- Nodes ----

  /** Begins anew with the open variables as the first nodes: number i is OPEN + i. */
  private void beginNodes(int openShape) {
    nodeCount = 0;
    for (int open = 0; open < openCount; open++) {
      newNode(openShape, 0, 0);
    }
  }

  private int newNode(int newShape, int newLeft, int newRight) {
    if (nodeCount >= MAX_NODES) {
      return MAX_NODES - 1;
    }
    int made = nodeCount;
    nodeCount++;
    shape[made] = newShape;
    left[made] = newLeft;
    right[made] = newRight;
    link[made] = made;
    note[made] = 0;
    return made;
  }

  private void clearNotes() {
    for (int i = 0; i < nodeCount; i++) {
      note[i] = 0;
    }
  }

  private boolean hasParts(int type) {
    return shape[type] >= LIST && shape[type] <= ARROW;
  }

  private int find(int type) {
    int top = type;
    for (int i = 0; i < MAX_NODES && link[top] != top; i++) {
      top = link[top];
    }
    return top;
  }

  /**
   * Makes two types equal in the most general way; false if their shapes forbid it. Nodes are
   * linked before their parts are looked at, so that it ends even if a type comes to contain itself.
   */
  private boolean makeEqual(int one, int other) {
    todoCount = 0;
    addPair(one, other);
    for (int turn = 0; turn < 4 * MAX_NODES && todoCount > 0; turn++) {
      todoCount--;
      int a = find(todo[todoCount]);
      int b = find(todoOther[todoCount]);
      if (a == b) {
        continue;
      }
      if (shape[a] == VARIABLE) {
        link[a] = b;
      } else if (shape[b] == VARIABLE) {
        link[b] = a;
      } else if (shape[a] != shape[b]) {
        return false;
      } else {
        link[a] = b;
        if (hasParts(a)) {
          addPair(left[a], left[b]);
          addPair(right[a], right[b]);
        }
      }
    }
    return true;
  }

  private void addPair(int one, int other) {
    if (todoCount < MAX_NODES) {
      todo[todoCount] = one;
      todoOther[todoCount] = other;
      todoCount++;
    }
  }

  /** Goes down through the type; a part met again on the way down to it contains itself. */
  private boolean containsItself(int type) {
    final int onTheWay = 1;
    final int done = 2;
    clearNotes();
    todo[0] = find(type);
    note[todo[0]] = onTheWay;
    int depth = 1;
    for (int turn = 0; turn < 2 * MAX_NODES && depth > 0; turn++) {
      int here = todo[depth - 1];
      int next = here;
      if (hasParts(here)) {
        int first = find(left[here]);
        int second = find(right[here]);
        if (note[first] == onTheWay || note[second] == onTheWay) {
          return true;
        }
        next = note[first] == 0 ? first : note[second] == 0 ? second : here;
      }
      if (next == here || depth >= MAX_NODES) {
        note[here] = done;
        depth--;
      } else {
        note[next] = onTheWay;
        todo[depth] = next;
        depth++;
      }
    }
    return false;
  }

  /** The type with new variables for its general ones; parts without general ones are shared. */
  private int instance(int type) {
    clearNotes();
    int top = find(type);
    todo[0] = top;
    int depth = 1;
    for (int turn = 0; turn < 2 * MAX_NODES && depth > 0; turn++) {
      int here = todo[depth - 1];
      int next = here;
      if (hasParts(here)) {
        int first = find(left[here]);
        int second = find(right[here]);
        next = note[first] == 0 ? first : note[second] == 0 ? second : here;
      }
      if (next == here || depth >= MAX_NODES) {
        int copied = copyAboveParts(here);
        // A note of 0 means that there is no copy yet.
        note[here] = copied + 1;
        depth--;
      } else {
        todo[depth] = next;
        depth++;
      }
    }
    return note[top] - 1;
  }

  private int copyAboveParts(int type) {
    if (shape[type] == GENERIC) {
      return newNode(VARIABLE, 0, 0);
    }
    if (!hasParts(type)) {
      return type;
    }
    int first = find(left[type]);
    int second = find(right[type]);
    int newFirst = note[first] - 1;
    int newSecond = note[second] - 1;
    if (newFirst == first && newSecond == second) {
      return type;
    }
    return newNode(shape[type], newFirst, newSecond);
  }

  // ---- Types written out ----

  /** Nodes for a declared type, with new nodes of the given shape for its general variables. */
  private int buildDeclared(int name, int generalShape) {
    for (int i = 0; i < MAX_SIZE; i++) {
      generalNode[i] = -1;
    }
    // From the back, so that the parts are there before the whole, the left one on top.
    todoCount = 0;
    for (int k = declaredSize[name] - 1; k >= 0; k--) {
      int code = declaredNodes[name * MAX_SIZE + k];
      int type;
      if (code >= OPEN) {
        type = code - OPEN;
      } else if (code >= GENERAL) {
        type = generalNodeFor(code - GENERAL, generalShape);
      } else {
        type = buildShape(code);
      }
      addPair(type, 0);
    }
    return todo[0];
  }

  private int generalNodeFor(int number, int generalShape) {
    if (generalNode[number] < 0) {
      generalNode[number] = newNode(generalShape, 0, 0);
    }
    return generalNode[number];
  }

  private int buildShape(int code) {
    if (code < LIST) {
      return newNode(code, 0, 0);
    }
    int first = takeTodo();
    int second = code == PAIR || code == ARROW ? takeTodo() : first;
    return newNode(code, first, second);
  }

  private int takeTodo() {
    if (todoCount > 0) {
      todoCount--;
    }
    return todo[todoCount];
  }

  /** Nodes for the type that the tokens spell. */
  private int buildSpelled() {
    waitingCount = 0;
    for (int i = 0; i < stepCount; i++) {
      int at = stepPlaces[i];
      int type;
      if (steps[i] == DO_ATOM) {
        int atomShape = shapeOfTypeAtom(at);
        type = newNode(atomShape, 0, 0);
      } else {
        type = buildSpelledWhole(kinds[at]);
      }
      pushType(type, false);
    }
    return popType();
  }

  private int shapeOfTypeAtom(int at) {
    switch (kinds[at]) {
      case T_INT_TYPE:
        return INT;
      case T_BOOL_TYPE:
        return BOOL;
      case T_UNIT_TYPE:
        return UNIT;
      default:
        return FIRST_TVAR + values[at];
    }
  }

  private int buildSpelledWhole(int kind) {
    int second = popType();
    if (kind == T_LIST_TYPE) {
      return newNode(LIST, second, second);
    }
    if (kind == T_REF) {
      return newNode(REF, second, second);
    }
    int first = popType();
    return newNode(kind == T_STAR ? PAIR : ARROW, first, second);
  }

  /** Writes out what all declared types would be; false if one of them is too large. */
  private boolean draftTypes() {
    clearNotes();
    draftOpen = 0;
    for (int name = 0; name < NAMES; name++) {
      draftSize[name] = 0;
      boolean isNew = name == values[1];
      if (isNew || declaredSize[name] > 0) {
        int type = isNew ? boundType[1] : buildDeclared(name, GENERIC);
        if (!draftType(name, type)) {
          return false;
        }
      }
    }
    return true;
  }

  private boolean draftType(int name, int type) {
    int generals = 0;
    todoCount = 0;
    addPair(type, 0);
    for (int turn = 0; turn <= MAX_SIZE && todoCount > 0; turn++) {
      if (draftSize[name] >= MAX_SIZE) {
        return false;
      }
      int taken = takeTodo();
      int here = find(taken);
      int code = shape[here];
      if (code == GENERIC) {
        if (note[here] == 0) {
          generals++;
          note[here] = generals;
        }
        code = GENERAL + note[here] - 1;
      } else if (code == VARIABLE) {
        if (note[here] == 0) {
          draftOpen++;
          note[here] = draftOpen;
        }
        code = OPEN + note[here] - 1;
      } else {
        addParts(here);
      }
      draftNodes[name * MAX_SIZE + draftSize[name]] = code;
      draftSize[name]++;
    }
    return true;
  }

  /** The left part is put last, so that it is written first. */
  private void addParts(int type) {
    if (shape[type] == PAIR || shape[type] == ARROW) {
      addPair(right[type], 0);
    }
    if (hasParts(type)) {
      addPair(left[type], 0);
    }
  }

  private void keepDraft() {
    for (int name = 0; name < NAMES; name++) {
      declaredSize[name] = draftSize[name];
    }
    for (int i = 0; i < ALL_SIZES; i++) {
      declaredNodes[i] = draftNodes[i];
    }
    openCount = draftOpen;
    accepted++;
    tokenCount = 0;
  }
}
