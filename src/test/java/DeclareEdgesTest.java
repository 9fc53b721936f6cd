/** Promise 4, sentence by sentence: FULL, UNBOUND, LARGE, and what a declaration changes. */
public final class DeclareEdgesTest {
  public static void main(String[] args) {
    fullAtTwenty();
    fullCountsAcceptedOnes();
    fullSinceTheLastReset();
    fullComesFirst();
    unboundNames();
    unboundFirstAndLastPlace();
    unboundComesBeforeClash();
    clashComesBeforeLarge();
    largeByEachKindOfNode();
    largeByEachWrittenVariable();
    largeFunctions();
    largeInAnotherName();
    largeInAnotherGeneralType();
    largeIsOfDeclaredNamesAlone();
    largeOldTypeDoesNotCount();
    syntaxChangesNothing();
    unboundChangesNothing();
    clashChangesNothing();
    largeChangesNothing();
    fullChangesNothing();
    refusedOftenChangesNothing();
    acceptedChanges();
    Checks.finish();
  }

  /** A session with this many accepted declarations of the names a .. e. */
  private static OpenTypeSession withAccepted(int count) {
    OpenTypeSession session = new OpenTypeSession();
    accept(session, count);
    return session;
  }

  private static void accept(OpenTypeSession session, int count) {
    for (int i = 0; i < count; i++) {
      Checks.dueDeclare(session, "val " + (char) ('a' + i % 5) + " = " + i, "OK");
    }
  }

  // ---- "FULL if 20 were accepted since the last reset." ----

  private static void fullAtTwenty() {
    OpenTypeSession session = withAccepted(19);
    Checks.dueDeclare(session, "val f = true", "OK");
    Checks.dueDeclare(session, "val g = true", "FULL");
    Checks.dueDeclare(session, "val a = true", "FULL");
    Checks.due("types behind FULL", Checks.types(session),
        "a: int; b: int; c: int; d: int; e: int; f: bool; ");
    OpenTypeSession oneName = new OpenTypeSession();
    for (int i = 0; i < 20; i++) {
      Checks.dueDeclare(oneName, "val l = 1", "OK");
    }
    Checks.dueDeclare(oneName, "val l = 1", "FULL");
  }

  private static void fullCountsAcceptedOnes() {
    OpenTypeSession session = withAccepted(19);
    for (int i = 0; i < 3; i++) {
      Checks.dueDeclare(session, "val", "SYNTAX 1");
      Checks.dueDeclare(session, "val f = g", "UNBOUND 3");
      Checks.dueDeclare(session, "val f = 1 1", "CLASH 4");
      Checks.dueDeclare(session, "fun a b c d e f g = 1", "LARGE 10");
      Checks.dueFits(session, "a", "int", "OK");
    }
    Checks.dueDeclare(session, "val f = true", "OK");
    Checks.dueDeclare(session, "val f = true", "FULL");
  }

  private static void fullSinceTheLastReset() {
    OpenTypeSession session = withAccepted(5);
    Checks.due("reset of 5", session.reset(), 5);
    accept(session, 20);
    Checks.dueDeclare(session, "val f = true", "FULL");
    Checks.due("reset of 20", session.reset(), 20);
    accept(session, 20);
    Checks.dueDeclare(session, "val f = true", "FULL");
    Checks.due("reset of 20 again", session.reset(), 20);
    Checks.dueDeclare(session, "val f = true", "OK");
  }

  /** "FULL .. Else the first of": it is told whatever the tokens are; place is -1. */
  private static void fullComesFirst() {
    OpenTypeSession session = withAccepted(20);
    Checks.due("declare without tokens", Checks.declareAsIs(session), "FULL");
    Checks.dueDeclare(session, "val", "FULL");
    Checks.dueDeclare(session, "val a = f", "FULL");
    Checks.dueDeclare(session, "val a = 1 1", "FULL");
    Checks.dueDeclare(session, "fun a b c d e f g = 1", "FULL");
    Checks.dueFits(session, "a", "int", "OK");
    Checks.dueFits(session, "a", "bool", "NO");
    Checks.dueFits(session, "f", "bool", "UNBOUND");
    Checks.dueFits(session, "a", "bool )", "SYNTAX 1");
  }

  // ---- "UNBOUND (the first NAME token that means nothing)" ----

  private static void unboundNames() {
    for (char name = 'a'; name <= 'l'; name++) {
      OpenTypeSession session = new OpenTypeSession();
      Checks.dueDeclare(session, "val c = " + name, "UNBOUND 3");
      Checks.dueDeclare(session, "val " + name + " = " + name, "UNBOUND 3");
      Checks.dueDeclare(session, "val " + name + " = 1", "OK");
      Checks.dueDeclare(session, "val " + name + " = " + name + " :: nil", "OK");
      session.reset();
      Checks.dueDeclare(session, "val c = " + name, "UNBOUND 3");
    }
    // A refused declaration gives its name no meaning.
    OpenTypeSession session = Checks.sessionWith("val b = 1");
    Checks.dueDeclare(session, "val a = b b", "CLASH 4");
    Checks.dueDeclare(session, "val c = a", "UNBOUND 3");
    Checks.dueDeclare(session, "fun a b c d e f g = 1", "LARGE 10");
    Checks.dueDeclare(session, "val c = a", "UNBOUND 3");
  }

  private static void unboundFirstAndLastPlace() {
    String names = " a a a a a a a a a a a a a a a a a a a a";
    OpenTypeSession session = Checks.sessionWith("val a = 1");
    Checks.due("tokens", Checks.countWords("val b =" + names), 23);
    Checks.dueDeclare(session, "val b =" + names + " b", "UNBOUND 23");
    Checks.dueDeclare(session, "val b = b" + names, "UNBOUND 3");
    Checks.dueDeclare(session, "val b = c" + names.substring(2) + " d", "UNBOUND 3");
    Checks.dueDeclare(session, "val b = a + c + d", "UNBOUND 5");
    Checks.dueDeclare(session, "val b = a + d + c", "UNBOUND 5");
    Checks.dueDeclare(session, "val b = a + a + c", "UNBOUND 7");
    Checks.dueDeclare(session, "val b = a + a + a", "OK");
  }

  private static void unboundComesBeforeClash() {
    OpenTypeSession session = new OpenTypeSession();
    Checks.dueDeclare(session, "val a = ( 1 1 , b )", "UNBOUND 7");
    Checks.dueDeclare(session, "val a = fn b => b b c", "UNBOUND 8");
    Checks.dueDeclare(session, "fun a b c d e f g = h", "UNBOUND 9");
  }

  private static void clashComesBeforeLarge() {
    OpenTypeSession session = new OpenTypeSession();
    Checks.dueDeclare(session, "fun a b c d e f g = 1 1", "CLASH 10");
    Checks.dueDeclare(session, "fun a b c d e f g = a", "CLASH 8");
    Checks.dueDeclare(session, "fun a b c d e f g = 1", "LARGE 10");
  }

  // ---- LARGE: "would have more than 12 nodes; a node is each .., as often as it is written" ----

  private static void largeByEachKindOfNode() {
    for (String leaf : new String[] {"1", "true", "( )", "l"}) {
      OpenTypeSession session = Checks.sessionWith("val l = hd nil",
          "val a = ( " + leaf + " , ( " + leaf + " , " + leaf + " ) )", "val b = ( a , a )");
      sizes(session, "b", 11);
      largeAround(session, "b", " :: nil");
    }
    chain("val a = nil", "", " :: nil", 2);
    chain("val a = 1", "ref ", "", 1);
    chain("val a = 1", "( 1 , ", " )", 1);
    chain("val a = 1", "fn b => ", "", 1);
  }

  /** Goes from 11 nodes to 12, which is accepted, and to 13, which is not. */
  private static void largeAround(OpenTypeSession session, String name, String more) {
    Checks.dueDeclare(session, "val k = " + name + more, "OK");
    sizes(session, "k", 12);
    Checks.due("the last node of 12 is there", session.node(10, 11) >= 0, true);
    int tokens = 4 + Checks.countWords(more);
    Checks.dueDeclare(session, "val j = k" + more, "LARGE " + tokens);
    Checks.dueDeclare(session, "val k = k" + more, "LARGE " + tokens);
    sizes(session, "k", 12);
    sizes(session, "j", 0);
  }

  private static void sizes(OpenTypeSession session, String name, int want) {
    Checks.due("size of " + name, session.size(Checks.valueOf(name)), want);
  }

  /** Puts the same around a type again and again, until it would have more than 12 nodes. */
  private static void chain(String first, String before, String behind, int size) {
    OpenTypeSession session = Checks.sessionWith(first);
    int step = before.startsWith("ref") || behind.startsWith(" ::") ? 1 : 2;
    String text = "val a = " + before + "a" + behind;
    int nodes = size;
    while (nodes + step <= 12) {
      nodes += step;
      Checks.dueDeclare(session, text, "OK");
      sizes(session, "a", nodes);
    }
    Checks.dueDeclare(session, text, "LARGE " + Checks.countWords(text));
    sizes(session, "a", nodes);
  }

  /** One general variable written six times; six that are written once. */
  private static void largeByEachWrittenVariable() {
    OpenTypeSession session = Checks.sessionWith("fun a b = ( b , ( b , ( b , ( b , b ) ) ) )");
    Checks.dueTypeOf(session, "a", "-> A * A * A * A * A A");
    largeAround(session, "a", " :: nil");
    OpenTypeSession six = Checks.sessionWith("fun a b c d e f = hd nil");
    Checks.dueTypeOf(six, "a", "-> A -> B -> C -> D -> E F");
    largeAround(six, "a", " :: nil");
    OpenTypeSession open = Checks.sessionWith("fun a b = ( hd nil , ( hd nil , hd nil ) )",
        "val c = ( a 1 , a 1 )");
    Checks.dueTypeOf(open, "c", "* * ?0 * ?1 ?2 * ?3 * ?4 ?5");
    largeAround(open, "c", " :: nil");
  }

  private static void largeFunctions() {
    OpenTypeSession session = new OpenTypeSession();
    Checks.dueDeclare(session, "fun a b c d e f = 1 :: nil", "OK");
    sizes(session, "a", 12);
    Checks.dueDeclare(session, "fun a b c d e f = ref ( 1 :: nil )", "LARGE 14");
    Checks.dueDeclare(session, "fun a b c d e f g = ( )", "LARGE 11");
    Checks.dueDeclare(session, "val a = fn b => fn c => fn d => fn e => fn f => ref 1", "OK");
    sizes(session, "a", 12);
    Checks.dueDeclare(session, "val a = fn b => fn c => fn d => fn e => fn f => fn g => 1", "LARGE 22");
    sizes(session, "a", 12);
  }

  /** "the type of some declared name, this one among them": another one grows to 12, to 13. */
  private static void largeInAnotherName() {
    for (String pair : new String[] {"a l", "l a", "e f", "f e", "a b", "l k"}) {
      String other = pair.substring(0, 1);
      String name = pair.substring(2);
      OpenTypeSession session = Checks.sessionWith("val c = ref nil",
          "val d = ( 1 , ( 1 , ( 1 , 1 ) ) )", "val " + other + " = ( c , d )");
      sizes(session, other, 11);
      String before = Checks.types(session);
      Checks.dueDeclare(session, "val " + name + " = c := ( ( 1 :: nil ) :: nil ) :: nil", "LARGE 16");
      Checks.due("types behind LARGE", Checks.types(session), before);
      Checks.dueDeclare(session, "val " + name + " = c := ( 1 :: nil ) :: nil", "OK");
      sizes(session, other, 12);
      Checks.dueTypeOf(session, name, "unit");
      Checks.dueTypeOf(session, "c", "ref list list int");
    }
  }

  private static void largeInAnotherGeneralType() {
    OpenTypeSession session = Checks.sessionWith("val a = ref nil", "fun b c d e = ( c , ! a )");
    Checks.dueTypeOf(session, "b", "-> A -> B -> C * A list ?0");
    Checks.dueDeclare(session, "val f = a := ( ref ( ref ( ref 1 ) ) ) :: nil", "LARGE 17");
    Checks.dueDeclare(session, "val f = a := ( ref ( ref 1 ) ) :: nil", "OK");
    Checks.dueTypeOf(session, "b", "-> A -> B -> C * A list ref ref int");
    sizes(session, "b", 12);
  }

  /** Neither the names of a let nor the types of parts are declared names' types. */
  private static void largeIsOfDeclaredNamesAlone() {
    OpenTypeSession session = Checks.sessionWith("fun a b c d e f = 1 :: nil");
    Checks.dueType(session, "val g = let val h = ( a , a ) in 1 end", "int");
    Checks.dueType(session, "val g = let fun a b c d e f g = 1 in 1 end", "int");
    Checks.dueType(session, "val g = fst ( 1 , a :: nil )", "int");
    Checks.dueType(session, "val g = null ( a :: nil )", "bool");
  }

  /** What the type of this name was before is then no declared name's type. */
  private static void largeOldTypeDoesNotCount() {
    OpenTypeSession session = Checks.sessionWith("val c = ref nil",
        "val d = ( 1 , ( 1 , ( 1 , 1 ) ) )", "val a = ( c , d )");
    Checks.dueDeclare(session, "val e = c := ( ( 1 :: nil ) :: nil ) :: nil", "LARGE 16");
    Checks.dueDeclare(session, "val a = c := ( ( 1 :: nil ) :: nil ) :: nil", "OK");
    Checks.due("types behind it", Checks.types(session),
        "a: unit; c: ref list list list int; d: * int * int * int int; ");
  }

  // ---- "Only OK changes anything but place()" ----

  private static final String OPEN_TYPES = "a: ref list ?0; b: -> A -> B A; c: list ?1; ";

  private static OpenTypeSession withOpenTypes() {
    OpenTypeSession session =
        Checks.sessionWith("val a = ref nil", "fun b c d = c", "val c = tl nil");
    Checks.due("types", Checks.types(session), OPEN_TYPES);
    return session;
  }

  /** Declares twice what is refused, then looks at the tokens, the types and the number accepted. */
  private static void refuse(OpenTypeSession session, String text, String want) {
    Checks.dueDeclare(session, text, want);
    Checks.due("types behind " + want, Checks.types(session), OPEN_TYPES);
    Checks.due("declare again", Checks.declareAsIs(session), want);
    Checks.due("wipe behind " + want, session.wipe(), Checks.countWords(text));
    Checks.due("declare behind wipe", Checks.declareAsIs(session), "SYNTAX 0");
  }

  /** The open variables are still open, each for itself, and three declarations were accepted. */
  private static void stillOpen(OpenTypeSession session) {
    Checks.due("types", Checks.types(session), OPEN_TYPES);
    Checks.dueDeclare(session, "val d = ( a := true :: nil , 1 :: c )", "OK");
    Checks.due("types settled", Checks.types(session),
        "a: ref list bool; b: -> A -> B A; c: list int; d: * unit list int; ");
    Checks.due("reset", session.reset(), 4);
  }

  private static void syntaxChangesNothing() {
    OpenTypeSession session = withOpenTypes();
    refuse(session, "val a = ( a := c , 1 :: c , 1 )", "SYNTAX 11");
    refuse(session, "", "SYNTAX 0");
    stillOpen(session);
    Checks.dueDeclare(session, "val a = 1 +", "SYNTAX 5");
    Checks.spell(session, "2");
    Checks.due("declare with the end", Checks.declareAsIs(session), "OK");
    Checks.dueTypeOf(session, "a", "int");
    Checks.due("reset", session.reset(), 1);
  }

  private static void unboundChangesNothing() {
    OpenTypeSession session = withOpenTypes();
    refuse(session, "val a = ( a := c , 1 :: d )", "UNBOUND 10");
    refuse(session, "val l = l", "UNBOUND 3");
    stillOpen(session);
    Checks.dueDeclare(session, "val a = b", "UNBOUND 3");
    Checks.spell(session, "+");
    Checks.due("declare of one more token", Checks.declareAsIs(session), "SYNTAX 5");
    Checks.spell(session, "1");
    Checks.due("declare of one more token", Checks.declareAsIs(session), "UNBOUND 3");
    Checks.due("reset", session.reset(), 0);
  }

  private static void clashChangesNothing() {
    OpenTypeSession session = withOpenTypes();
    refuse(session, "val a = ( a := c , 1 :: c ) + 1", "CLASH 12");
    refuse(session, "val c = ( a := 1 :: nil , a := true :: nil )", "CLASH 11");
    refuse(session, "fun b d = ( a := 1 :: nil , b )", "CLASH 3");
    refuse(session, "val d = c := c", "CLASH 4");
    stillOpen(session);
    Checks.dueDeclare(session, "val a = 1 :: 2", "CLASH 4");
    Checks.spell(session, ":: nil");
    Checks.due("declare of more tokens", Checks.declareAsIs(session), "OK");
    Checks.dueTypeOf(session, "a", "list int");
    Checks.due("reset", session.reset(), 1);
  }

  private static void largeChangesNothing() {
    OpenTypeSession session = withOpenTypes();
    refuse(session, "fun a d e f g h = ( a := c , 1 :: c )", "CLASH 7");
    refuse(session, "fun d e f g h i = ( a := c , 1 :: c )", "LARGE 17");
    refuse(session, "val c = ( a := 1 :: nil , ( b , ( b , 1 :: c ) ) )", "LARGE 22");
    stillOpen(session);
    Checks.dueDeclare(session, "fun a c d e f g = 1", "OK");
    Checks.dueDeclare(session, "fun b c d = c", "OK");
    Checks.dueDeclare(session, "val a = b a", "LARGE 5");
    Checks.spell(session, "1");
    Checks.due("declare of one more token", Checks.declareAsIs(session), "OK");
    Checks.dueTypeOf(session, "a", "-> ?0 -> ?1 -> ?2 -> ?3 -> ?4 int");
    Checks.due("reset", session.reset(), 3);
  }

  private static void fullChangesNothing() {
    OpenTypeSession session = withAccepted(17);
    Checks.dueDeclare(session, "val a = ref nil", "OK");
    Checks.dueDeclare(session, "fun b c d = c", "OK");
    Checks.dueDeclare(session, "val c = tl nil", "OK");
    String types = OPEN_TYPES + "d: int; e: int; ";
    Checks.dueDeclare(session, "val d = ( a := c , 1 :: c )", "FULL");
    Checks.due("types behind FULL", Checks.types(session), types);
    Checks.due("declare again", Checks.declareAsIs(session), "FULL");
    Checks.due("wipe behind FULL", session.wipe(), 12);
    Checks.dueDeclare(session, "val f = 1", "FULL");
    Checks.due("reset behind FULL", session.reset(), 20);
    Checks.due("declare of the tokens that stayed", Checks.declareAsIs(session), "OK");
    Checks.due("types behind it", Checks.types(session), "f: int; ");
  }

  /** The same refusal hundreds of times: nothing may pile up. */
  private static void refusedOftenChangesNothing() {
    String[][] refused = {{"val a = ( 1 , ( 2 , ( 3 , ( 4 , ( 5 , 6 7 ) ) ) )", "SYNTAX 24"},
        {"val d = ( 1 , ( 2 , ( 3 , ( 4 , ( c , d ) ) ) ) )", "UNBOUND 18"},
        {"val d = ( 1 , ( 2 , ( 3 , ( 4 :: c , 5 6 ) ) ) )", "CLASH 18"},
        {"fun d e f g h i = ( a := c , 1 :: c )", "LARGE 17"}};
    for (String[] one : refused) {
      OpenTypeSession session = withOpenTypes();
      Checks.dueDeclare(session, one[0], one[1]);
      for (int i = 0; i < 150; i++) {
        Checks.due("declare again", Checks.declareAsIs(session), one[1]);
      }
      session.wipe();
      stillOpen(session);
    }
  }

  /** OK: "the NAME has its type, types of other names may have become less open; the tokens are removed." */
  private static void acceptedChanges() {
    OpenTypeSession session = withOpenTypes();
    Checks.dueDeclare(session, "val d = a := ( 1 , hd c ) :: nil", "OK");
    Checks.due("types", Checks.types(session),
        "a: ref list * int ?0; b: -> A -> B A; c: list ?0; d: unit; ");
    Checks.due("the tokens are removed", session.wipe(), 0);
    Checks.dueDeclare(session, "val b = c", "OK");
    Checks.due("declare of no tokens", Checks.declareAsIs(session), "SYNTAX 0");
    Checks.due("types", Checks.types(session),
        "a: ref list * int ?0; b: list ?0; c: list ?0; d: unit; ");
    Checks.due("reset", session.reset(), 5);
  }
}
