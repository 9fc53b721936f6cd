/** Promises 5 to 8 and 10, sentence by sentence: each boundary and both sides of it. */
public final class AnswersEdgesTest {
  private static final int LEAST = Integer.MIN_VALUE;
  private static final int MOST = Integer.MAX_VALUE;

  public static void main(String[] args) {
    placeBehindNothing();
    placeBehindEachAnswer();
    placeIsOfTheLatest();
    placeStaysBehindOtherCalls();
    resetAnswersTheNumber();
    resetForgetsAll();
    resetLeavesTokensAndPlace();
    sizeOutside();
    sizeOfEachName();
    nodeOutside();
    nodesOrder();
    generalNumbers();
    openNumbers();
    openNumbersChange();
    mostOpenVariables();
    oldTypeCountsForGeneral();
    oldTypeCountsInsideLet();
    oldTypeIsGoneAfterwards();
    Checks.finish();
  }

  // ---- Promise 5 ----

  /** "or there was none". */
  private static void placeBehindNothing() {
    OpenTypeSession session = new OpenTypeSession();
    session.token(7, 0);
    session.token(38, 0);
    session.wipe();
    session.reset();
    session.size(0);
    session.node(0, 0);
    Checks.due("place before the first declare or fits", session.place(), -1);
  }

  /** "-1 if the latest of these answered something else": behind each place each such answer. */
  private static void placeBehindEachAnswer() {
    String[][] told = {{"val", "SYNTAX 1"}, {"val b = c", "UNBOUND 3"}, {"val b = 1 1", "CLASH 4"},
        {"fun b c d e f g h = 1", "LARGE 10"}};
    for (String[] refused : told) {
      OpenTypeSession session = Checks.sessionWith("val a = 1");
      Checks.dueDeclare(session, refused[0], refused[1]);
      Checks.dueFits(session, "a", "int", "OK");
      Checks.dueDeclare(session, refused[0], refused[1]);
      Checks.dueFits(session, "a", "bool", "NO");
      Checks.dueDeclare(session, refused[0], refused[1]);
      Checks.dueFits(session, "l", "bool", "UNBOUND");
      Checks.due("fits of an outside name", Checks.fitsAsIs(session, 12), "UNBOUND");
      Checks.dueDeclare(session, refused[0], refused[1]);
      Checks.dueDeclare(session, "val a = 1", "OK");
      for (int i = 0; i < 18; i++) {
        Checks.dueDeclare(session, "val a = 1", "OK");
      }
      Checks.dueFits(session, "a", "int (", "SYNTAX 1");
      Checks.dueDeclare(session, refused[0], "FULL");
    }
  }

  /** "The place of the latest declare or fits". */
  private static void placeIsOfTheLatest() {
    OpenTypeSession session = Checks.sessionWith("val a = 1");
    Checks.dueDeclare(session, "val b = a + ( a a )", "CLASH 7");
    Checks.dueFits(session, "a", "int list -> )", "SYNTAX 3");
    Checks.dueDeclare(session, "val b = a + b", "UNBOUND 5");
    Checks.dueDeclare(session, "", "SYNTAX 0");
    Checks.due("place 0 is not -1", session.place(), 0);
    Checks.dueFits(session, "l", "int int", "SYNTAX 1");
    Checks.dueFits(session, "l", "", "SYNTAX 0");
    Checks.due("place again", session.place(), 0);
  }

  private static void placeStaysBehindOtherCalls() {
    OpenTypeSession session = Checks.sessionWith("val a = 1");
    Checks.dueDeclare(session, "val b = a + ( a a )", "CLASH 7");
    Checks.due("place twice", session.place(), 7);
    session.token(0, 1);
    Checks.due("place behind token", session.place(), 7);
    session.token(-1, 1);
    Checks.due("place behind a refused token", session.place(), 7);
    session.size(0);
    session.size(12);
    Checks.due("place behind size", session.place(), 7);
    session.node(0, 0);
    session.node(0, 12);
    Checks.due("place behind node", session.place(), 7);
    session.wipe();
    Checks.due("place behind wipe", session.place(), 7);
    session.reset();
    Checks.due("place behind reset", session.place(), 7);
  }

  // ---- Promise 6 ----

  /** "answers how many were accepted since the last reset." */
  private static void resetAnswersTheNumber() {
    for (int count : new int[] {0, 1, 2, 12, 13, 19, 20}) {
      OpenTypeSession session = new OpenTypeSession();
      for (int i = 0; i < count; i++) {
        Checks.dueDeclare(session, "val " + (char) ('a' + i % 12) + " = 1", "OK");
      }
      Checks.dueDeclare(session, "val a = 1 1", count == 20 ? "FULL" : "CLASH 4");
      Checks.dueFits(session, "a", "int", count == 0 ? "UNBOUND" : "OK");
      Checks.due("reset of " + count, session.reset(), count);
      Checks.due("reset again", session.reset(), 0);
      Checks.dueDeclare(session, "val a = 1", "OK");
      Checks.due("reset of one", session.reset(), 1);
    }
    OpenTypeSession session = Checks.sessionWith("val a = 1", "val a = 2", "val a = 3");
    Checks.due("reset of one name declared three times", session.reset(), 3);
  }

  /** "Forgets all declarations". */
  private static void resetForgetsAll() {
    OpenTypeSession session = new OpenTypeSession();
    for (char name = 'a'; name <= 'l'; name++) {
      Checks.dueDeclare(session, "val " + name + " = hd nil", "OK");
    }
    session.reset();
    Checks.due("types behind reset", Checks.types(session), "");
    for (char name = 'a'; name <= 'l'; name++) {
      Checks.dueDeclare(session, "val a = " + name, "UNBOUND 3");
      Checks.dueFits(session, "" + name, "int", "UNBOUND");
    }
    Checks.dueType(session, "val l = hd nil", "?0");
    Checks.dueType(session, "fun k a = ( a , nil )", "-> A * A list B");
    Checks.dueTypeOf(session, "l", "?0");
  }

  /** "Tokens stay.": none, some and 24 of them. */
  private static void resetLeavesTokensAndPlace() {
    OpenTypeSession session = Checks.sessionWith("val a = true");
    session.reset();
    Checks.due("wipe behind reset without tokens", session.wipe(), 0);
    Checks.dueDeclare(session, "val a = true", "OK");
    Checks.spell(session, "val b = a");
    session.reset();
    Checks.due("declare of the tokens that stayed", Checks.declareAsIs(session), "UNBOUND 3");
    Checks.due("wipe", session.wipe(), 4);
    Checks.spell(session, "val b = ( 1 , ( 2 , ( 3 , ( 4 , ( 5 , true ) ) ) ) )");
    session.reset();
    Checks.due("a 25th token behind reset", session.token(0, 0), false);
    Checks.due("declare of the tokens that stayed", Checks.declareAsIs(session), "OK");
    Checks.dueTypeOf(session, "b", "* int * int * int * int * int bool");
  }

  // ---- Promise 7 ----

  /** "0 if it is not declared or outside 0..11." */
  private static void sizeOutside() {
    OpenTypeSession session = new OpenTypeSession();
    for (char name = 'a'; name <= 'l'; name++) {
      Checks.due("size of " + name + " before", session.size(name - 'a'), 0);
      Checks.dueDeclare(session, "val " + name + " = ( 1 , 2 )", "OK");
      Checks.due("size of " + name, session.size(name - 'a'), 3);
    }
    for (int name : new int[] {-1, 12, -2, 13, -12, 23, 24, 144, 256, 65536, LEAST, LEAST + 11, MOST}) {
      Checks.due("size(" + name + ")", session.size(name), 0);
    }
    session.reset();
    Checks.due("size behind reset", session.size(0) + session.size(11), 0);
  }

  /** "The number of nodes of the type": from 1 to 12, for the first name and the last. */
  private static void sizeOfEachName() {
    for (String name : new String[] {"a", "l"}) {
      OpenTypeSession session = new OpenTypeSession();
      Checks.dueDeclare(session, "val " + name + " = 1", "OK");
      for (int size = 1; size <= 12; size++) {
        Checks.due("size of " + size, session.size(Checks.valueOf(name)), size);
        Checks.dueDeclare(session, "val " + name + " = " + name + " :: nil", size < 12 ? "OK" : "LARGE 6");
      }
      Checks.dueDeclare(session, "val " + name + " = ( )", "OK");
      Checks.due("size of a smaller type", session.size(Checks.valueOf(name)), 1);
    }
  }

  // ---- Promise 8 ----

  /** "-1 if there is no such node.": no node of a neighbour shows, nor one of an earlier type. */
  private static void nodeOutside() {
    OpenTypeSession session = new OpenTypeSession();
    for (char name = 'a'; name <= 'l'; name++) {
      Checks.dueDeclare(session, "fun " + name + " b c d e f = 1 :: nil", "OK");
    }
    for (int name : new int[] {0, 1, 10, 11}) {
      Checks.due("node(" + name + ", 0)", session.node(name, 0), OpenTypeSession.ARROW);
      Checks.due("node(" + name + ", 10)", session.node(name, 10), OpenTypeSession.LIST);
      Checks.due("node(" + name + ", 11)", session.node(name, 11), OpenTypeSession.INT);
      for (int k : new int[] {-1, 12, -2, 13, -12, 24, 143, 144, 256, LEAST, LEAST + 1, MOST}) {
        Checks.due("node(" + name + ", " + k + ")", session.node(name, k), -1);
      }
    }
    for (int name : new int[] {-1, 12, -2, 13, -12, 24, 256, LEAST, MOST}) {
      for (int k : new int[] {-1, 0, 11, 12, 24}) {
        Checks.due("node(" + name + ", " + k + ")", session.node(name, k), -1);
      }
    }
    Checks.dueDeclare(session, "val b = ref true", "OK");
    int[] want = {-1, OpenTypeSession.REF, OpenTypeSession.BOOL, -1, -1};
    for (int k = -1; k <= 3; k++) {
      Checks.due("node(1, " + k + ") of a smaller type", session.node(1, k), want[k + 1]);
    }
    Checks.due("node(1, 11) of a smaller type", session.node(1, 11), -1);
    session.reset();
    Checks.due("node behind reset", session.node(0, 0), -1);
  }

  /** "written from the outside in, left part before right part (0 the outermost)". */
  private static void nodesOrder() {
    OpenTypeSession session = new OpenTypeSession();
    Checks.dueType(session, "fun a b = ( ( b + 1 , true ) :: nil , ref ( ) )",
        "-> int * list * int bool ref unit");
    int[] want = {6, 0, 5, 3, 5, 0, 1, 4, 2, -1};
    for (int k = 0; k < want.length; k++) {
      Checks.due("node(0, " + k + ")", session.node(0, k), want[k]);
    }
    Checks.dueType(session, "val a = ( ( 1 , true ) , ( ( ) , 2 ) )", "* * int bool * unit int");
    Checks.dueType(session, "val a = ( fn b => b + 1 , fn b => b < 1 )", "* -> int int -> int bool");
    Checks.dueType(session, "fun a b = b 1 < 2", "-> -> int int bool");
  }

  /** "GENERAL + i for a general variable, which is the i-th different one met (0 first) in this type". */
  private static void generalNumbers() {
    OpenTypeSession session = new OpenTypeSession();
    Checks.dueType(session, "fun a b c d e f = hd nil", "-> A -> B -> C -> D -> E F");
    Checks.due("node of the first", session.node(0, 1), OpenTypeSession.GENERAL);
    Checks.due("node of the sixth", session.node(0, 10), OpenTypeSession.GENERAL + 5);
    Checks.dueType(session, "fun b c d e = ( e , ( d , c ) )", "-> A -> B -> C * C * B A");
    Checks.dueType(session, "fun c d e f = ( d , ( f , d ) )", "-> A -> B -> C * A * C A");
    Checks.dueType(session, "val d = ( nil , nil )", "* list A list B");
    Checks.dueType(session, "fun e f = ( ( tl nil , f ) , ( f , nil ) )", "-> A * * list B A * A list C");
    Checks.dueTypeOf(session, "a", "-> A -> B -> C -> D -> E F");
    // Open variables between them have numbers of their own.
    Checks.dueType(session, "val l = ref nil", "ref list ?0");
    Checks.dueType(session, "fun f a b c = ( ! l , ( c , b ) )", "-> A -> B -> C * list ?0 * C B");
    Checks.dueType(session, "fun f a = ( hd ( ! l ) , a )", "-> A * ?0 A");
  }

  /** "the i-th different one met going through the types of the declared names 0, 1, .. in this way". */
  private static void openNumbers() {
    OpenTypeSession session = new OpenTypeSession();
    Checks.dueType(session, "val l = ( hd nil , hd nil )", "* ?0 ?1");
    Checks.due("node of the first", session.node(11, 1), OpenTypeSession.OPEN);
    Checks.due("node of the second", session.node(11, 2), OpenTypeSession.OPEN + 1);
    Checks.dueType(session, "val e = ( snd l , fst l )", "* ?0 ?1");
    Checks.dueTypeOf(session, "l", "* ?1 ?0");
    Checks.dueType(session, "val a = hd nil", "?0");
    Checks.due("types", Checks.types(session), "a: ?0; e: * ?1 ?2; l: * ?2 ?1; ");
    Checks.dueType(session, "fun b c d = ( c , ( snd e , a ) )", "-> A -> B * A * ?1 ?0");
    Checks.due("types", Checks.types(session),
        "a: ?0; b: -> A -> B * A * ?1 ?0; e: * ?2 ?1; l: * ?1 ?2; ");
    Checks.dueType(session, "val c = ( snd l , ( a , snd l ) )", "* ?2 * ?0 ?2");
    Checks.due("types", Checks.types(session),
        "a: ?0; b: -> A -> B * A * ?1 ?0; c: * ?2 * ?0 ?2; e: * ?2 ?1; l: * ?1 ?2; ");
  }

  private static void openNumbersChange() {
    OpenTypeSession session = Checks.sessionWith(
        "val a = ref nil", "val b = ref nil", "val c = ref nil", "val d = ( ! c , ! a )");
    Checks.due("types", Checks.types(session),
        "a: ref list ?0; b: ref list ?1; c: ref list ?2; d: * list ?2 list ?0; ");
    Checks.dueDeclare(session, "val e = a := true :: nil", "OK");
    Checks.due("types, one settled", Checks.types(session),
        "a: ref list bool; b: ref list ?0; c: ref list ?1; d: * list ?1 list bool; e: unit; ");
    Checks.dueDeclare(session, "val e = b := ! c", "OK");
    Checks.due("types, two made equal", Checks.types(session),
        "a: ref list bool; b: ref list ?0; c: ref list ?0; d: * list ?0 list bool; e: unit; ");
    Checks.dueDeclare(session, "val a = hd nil", "OK");
    Checks.dueDeclare(session, "val b = 1", "OK");
    Checks.due("types, declared anew", Checks.types(session),
        "a: ?0; b: int; c: ref list ?1; d: * list ?1 list bool; e: unit; ");
    Checks.dueDeclare(session, "val e = c := ( a , ( hd nil , a ) ) :: nil", "OK");
    Checks.due("types, settled by others", Checks.types(session),
        "a: ?0; b: int; c: ref list * ?0 * ?1 ?0; d: * list * ?0 * ?1 ?0 list bool; e: unit; ");
  }

  /** Six open variables a type, twelve types: OPEN + 0 to OPEN + 71. */
  private static void mostOpenVariables() {
    OpenTypeSession session = Checks.sessionWith("fun l a = ( hd nil , ( hd nil , hd nil ) )");
    for (char name = 'a'; name <= 'l'; name++) {
      Checks.dueDeclare(session, "val " + name + " = ( l 1 , l 1 )", "OK");
    }
    for (int name = 0; name < 12; name++) {
      int met = OpenTypeSession.OPEN + 6 * name;
      int[] want = {5, 5, met, 5, met + 1, met + 2, 5, met + 3, 5, met + 4, met + 5, -1};
      for (int k = 0; k < want.length; k++) {
        Checks.due("node(" + name + ", " + k + ")", session.node(name, k), want[k]);
      }
    }
    Checks.dueDeclare(session, "val a = ( 1 + fst ( fst l ) , snd ( snd ( snd l ) ) )", "OK");
    Checks.dueTypeOf(session, "a", "* int ?0");
    Checks.dueTypeOf(session, "b", "* * ?1 * ?2 ?3 * ?4 * ?5 ?6");
    Checks.dueTypeOf(session, "l", "* * int * ?61 ?62 * ?63 * ?64 ?0");
  }

  // ---- Promise 10 ----

  /** "the type that it had before still counts .. while the new one gets its general variables." */
  private static void oldTypeCountsForGeneral() {
    for (String name : new String[] {"a", "l"}) {
      String before = "val " + name + " = ref nil";
      OpenTypeSession session = Checks.sessionWith(before);
      Checks.dueType(session, "val " + name + " = fn b => ! " + name, "-> A list ?0");
      OpenTypeSession same = Checks.sessionWith(before);
      Checks.dueType(same, "val " + name + " = " + name, "ref list ?0");
      Checks.dueType(same, "val " + name + " = ( nil , " + name + " )", "* list A ref list ?0");
      OpenTypeSession cons = Checks.sessionWith(before);
      Checks.dueType(cons, "val " + name + " = " + name + " :: nil", "list ref list ?0");
      // The variable is open in the new type too: a later declaration settles it.
      Checks.dueDeclare(cons, "val c = hd " + name + " := 1 :: nil", "OK");
      Checks.dueTypeOf(cons, name, "list ref list int");
      // What was general before stays out of the way.
      OpenTypeSession general = Checks.sessionWith("val " + name + " = nil");
      Checks.dueType(general, "val " + name + " = ( " + name + " , " + name + " )", "* list A list B");
    }
  }

  /** The same for the declarations of a let on the way to the new type. */
  private static void oldTypeCountsInsideLet() {
    OpenTypeSession session = Checks.sessionWith("val a = ref nil");
    Checks.dueDeclare(session, "val a = let val c = a in ( c := 1 :: nil , c := true :: nil ) end",
        "CLASH 17");
    Checks.dueDeclare(session, "val a = let fun c d = ! a in ( 1 :: c 1 , true :: c 1 ) end", "CLASH 18");
    Checks.dueDeclare(session, "val a = let fun c d = ! a in ( 1 :: c 1 , 2 :: c 1 ) end", "OK");
    Checks.dueTypeOf(session, "a", "* list int list int");
  }

  /** ".. while ..": afterwards the old type counts neither for OPEN nor for its numbers. */
  private static void oldTypeIsGoneAfterwards() {
    OpenTypeSession session = Checks.sessionWith("val a = ref nil", "val b = ref nil", "val a = 1");
    Checks.due("types", Checks.types(session), "a: int; b: ref list ?0; ");
    Checks.dueType(session, "val b = fn c => ( ! b , nil )", "-> A * list ?0 list B");
    Checks.dueType(session, "val b = nil", "list A");
    Checks.dueType(session, "val c = hd nil", "?0");
    Checks.dueType(session, "val c = fst ( 1 , c )", "int");
    Checks.dueType(session, "fun c d = d", "-> A A");
  }
}
