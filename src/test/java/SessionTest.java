/** Promises 4 to 8 and 10: what a declaration changes, place, reset, size, node and the limits. */
public final class SessionTest {
  public static void main(String[] args) {
    acceptedRemovesTokens();
    refusedChangesNothing();
    large();
    largeElsewhere();
    largeOldType();
    hugeTypes();
    full();
    place();
    reset();
    sizeAndNode();
    numbersOfVariables();
    declaredAnew();
    Checks.finish();
  }

  private static void acceptedRemovesTokens() {
    OpenTypeSession session = new OpenTypeSession();
    Checks.dueDeclare(session, "val a = 1", "OK");
    Checks.due("wipe behind OK", session.wipe(), 0);
    Checks.dueDeclare(session, "val a = b", "UNBOUND 3");
    Checks.due("wipe behind UNBOUND", session.wipe(), 4);
    Checks.dueDeclare(session, "val a = 1 1", "CLASH 4");
    Checks.spell(session, "+ 1");
    Checks.due("declare of more tokens", session.declare(), OpenTypeSession.CLASH);
    Checks.due("wipe behind CLASH", session.wipe(), 7);
  }

  private static void refusedChangesNothing() {
    OpenTypeSession session = new OpenTypeSession();
    Checks.dueType(session, "val a = ref nil", "ref list ?0");
    Checks.dueType(session, "val b = ref nil", "ref list ?1");
    Checks.dueDeclare(session, "val a = ( a := 1 :: nil , b := true :: nil , 1 )", "SYNTAX 15");
    Checks.dueDeclare(session, "val a = ( a := 1 :: nil , b := true :: c )", "UNBOUND 14");
    Checks.dueDeclare(session, "val a = ( a := 1 :: nil , b := true :: 1 )", "CLASH 13");
    Checks.dueDeclare(session, "val a = ( a := ! b , b := true )", "CLASH 10");
    Checks.dueTypeOf(session, "a", "ref list ?0");
    Checks.dueTypeOf(session, "b", "ref list ?1");
    Checks.due("reset counts accepted ones alone", session.reset(), 2);
  }

  private static void large() {
    OpenTypeSession session = new OpenTypeSession();
    // 12 nodes are not too many, 13 are.
    Checks.dueType(session, "fun a b c d e f = 1", "-> A -> B -> C -> D -> E int");
    Checks.dueType(session, "fun a b c d e f = 1 :: nil", "-> A -> B -> C -> D -> E list int");
    Checks.dueDeclare(session, "fun a b c d e f = ( 1 :: nil ) :: nil", "LARGE 15");
    Checks.dueDeclare(session, "fun a b c d e f g = 1", "LARGE 10");
    Checks.dueTypeOf(session, "a", "-> A -> B -> C -> D -> E list int");
    Checks.dueDeclare(session, "fun g b c d = b d ( c d )", "LARGE 12");
    Checks.due("size of a refused name", session.size(6), 0);
    Checks.due("wipe behind LARGE", session.wipe(), 12);
    // What counts is the declared types alone, not the types on the way to them.
    Checks.dueType(session, "val h = fst ( 1 , ( a , ( a , a ) ) )", "int");
  }

  private static void largeElsewhere() {
    OpenTypeSession session = new OpenTypeSession();
    Checks.dueType(session, "val a = ref nil", "ref list ?0");
    Checks.dueType(session, "val b = ( a , ( a , a ) )", "* ref list ?0 * ref list ?0 ref list ?0");
    Checks.dueDeclare(session, "val c = a := ( 1 :: nil ) :: nil", "LARGE 12");
    Checks.dueTypeOf(session, "a", "ref list ?0");
    Checks.dueTypeOf(session, "b", "* ref list ?0 * ref list ?0 ref list ?0");
    Checks.due("size of c", session.size(2), 0);
    Checks.dueType(session, "val c = a := 1 :: nil", "unit");
    Checks.dueTypeOf(session, "b", "* ref list int * ref list int ref list int");
  }

  /** The type that a name had before is no declared type any more when sizes are looked at. */
  private static void largeOldType() {
    OpenTypeSession session = new OpenTypeSession();
    Checks.dueType(session, "val a = ref nil", "ref list ?0");
    Checks.dueType(session, "val b = ( a , ( a , a ) )", "* ref list ?0 * ref list ?0 ref list ?0");
    Checks.dueType(session, "val b = a := ( 1 :: nil ) :: nil", "unit");
    Checks.dueTypeOf(session, "a", "ref list list int");
  }

  /** Types that written out have thousands of nodes clash or are large like any other. */
  private static void hugeTypes() {
    OpenTypeSession session = new OpenTypeSession();
    Checks.dueType(session, "fun a b = ( ( b , b ) , ( b , b ) )", "-> A * * A A * A A");
    Checks.dueDeclare(session, "val c = a ( a ( a ( a ( a ( a ( a 1 ) ) ) ) ) )", "LARGE 23");
    Checks.dueDeclare(session, "val c = a ( a ( a ( a ( a ( a a ) ) ) ) ) + 1", "CLASH 20");
    Checks.dueDeclare(session, "val c = let val d = fn e => a ( a e ) in d ( d d ) end", "LARGE 22");
    Checks.dueType(session, "val c = fst ( 1 , a ( a ( a ( a ( a 1 ) ) ) ) )", "int");
  }

  private static void full() {
    OpenTypeSession session = new OpenTypeSession();
    for (int i = 0; i < 20; i++) {
      Checks.dueDeclare(session, "val a = 1 1", "CLASH 4");
      Checks.dueDeclare(session, "val " + (char) ('a' + i % 5) + " = 1", "OK");
    }
    Checks.dueDeclare(session, "val f = true", "FULL");
    Checks.dueDeclare(session, "val (", "FULL");
    Checks.due("wipe behind FULL", session.wipe(), 2);
    Checks.due("size behind FULL", session.size(5), 0);
    Checks.dueFits(session, "a", "int", "OK");
    Checks.due("reset behind FULL", session.reset(), 20);
    Checks.dueDeclare(session, "val f = true", "OK");
    Checks.due("reset again", session.reset(), 1);
  }

  private static void place() {
    OpenTypeSession session = new OpenTypeSession();
    Checks.dueDeclare(session, "val a = 1 1", "CLASH 4");
    session.wipe();
    session.reset();
    session.size(0);
    session.node(0, 0);
    session.token(7, 0);
    session.token(99, 0);
    Checks.due("place behind other calls", session.place(), 4);
    Checks.due("place again", session.place(), 4);
    Checks.dueDeclare(session, "val a = 1", "OK");
    Checks.due("place behind OK", session.place(), -1);
    Checks.dueDeclare(session, "val b = c", "UNBOUND 3");
    Checks.dueFits(session, "a", "int", "OK");
    Checks.due("place behind fits OK", session.place(), -1);
    Checks.dueDeclare(session, "val", "SYNTAX 1");
    Checks.dueFits(session, "a", "bool", "NO");
    Checks.due("place behind fits NO", session.place(), -1);
    Checks.dueFits(session, "a", "bool )", "SYNTAX 1");
    Checks.dueFits(session, "b", "bool", "UNBOUND");
    Checks.due("place behind fits UNBOUND", session.place(), -1);
    Checks.dueFits(session, "a", "", "SYNTAX 0");
    Checks.dueDeclare(session, "fun a b c d e f g = 1", "LARGE 10");
    for (int i = 0; i < 19; i++) {
      Checks.dueDeclare(session, "val a = 1", "OK");
    }
    Checks.dueFits(session, "a", "int int", "SYNTAX 1");
    Checks.dueDeclare(session, "val a =", "FULL");
    Checks.due("place behind FULL", session.place(), -1);
  }

  private static void reset() {
    OpenTypeSession session = new OpenTypeSession();
    Checks.dueDeclare(session, "val a = ref nil", "OK");
    Checks.dueDeclare(session, "val a = ref nil", "OK");
    Checks.dueDeclare(session, "val b = a", "OK");
    Checks.dueDeclare(session, "val c = d", "UNBOUND 3");
    session.wipe();
    Checks.spell(session, "val c = a");
    Checks.due("reset", session.reset(), 3);
    Checks.due("size behind reset", session.size(0) + session.size(1), 0);
    Checks.due("node behind reset", session.node(0, 0), -1);
    Checks.due("the tokens stay", session.declare(), OpenTypeSession.UNBOUND);
    Checks.due("their place", session.place(), 3);
    Checks.due("wipe", session.wipe(), 4);
    Checks.due("reset again", session.reset(), 0);
    Checks.dueType(session, "val b = ref nil", "ref list ?0");
    Checks.dueType(session, "fun c d = d", "-> A A");
  }

  private static void sizeAndNode() {
    OpenTypeSession session = new OpenTypeSession();
    Checks.dueDeclare(session, "fun l b c = ( b :: nil , ref ( c < 1 ) )", "OK");
    int[] want = {6, 10, 6, 0, 5, 3, 10, 4, 1};
    Checks.due("size(11)", session.size(11), want.length);
    for (int k = 0; k < want.length; k++) {
      Checks.due("node(11, " + k + ")", session.node(11, k), want[k]);
    }
    for (int k : new int[] {-1, want.length, 12, 100, Integer.MIN_VALUE, Integer.MAX_VALUE}) {
      Checks.due("node(11, " + k + ")", session.node(11, k), -1);
    }
    for (int name : new int[] {-1, 0, 10, 12, Integer.MIN_VALUE, Integer.MAX_VALUE}) {
      Checks.due("size(" + name + ")", session.size(name), 0);
      Checks.due("node(" + name + ", 0)", session.node(name, 0), -1);
    }
    Checks.dueType(session, "val l = ( )", "unit");
    Checks.due("size of a name declared anew", session.size(11), 1);
  }

  private static void numbersOfVariables() {
    OpenTypeSession session = new OpenTypeSession();
    Checks.dueType(session, "fun f a b c = ( c , ( b , a ) )", "-> A -> B -> C * C * B A");
    Checks.dueType(session, "val e = ( tl nil , tl nil )", "* list ?0 list ?1");
    Checks.dueType(session, "val d = tl nil", "list ?0");
    Checks.dueTypeOf(session, "e", "* list ?1 list ?2");
    Checks.dueType(session, "val c = snd e", "list ?0");
    Checks.dueTypeOf(session, "d", "list ?1");
    Checks.dueTypeOf(session, "e", "* list ?2 list ?0");
    Checks.dueType(session, "fun a g h = ( g , h :: d )", "-> A -> ?0 * A list ?0");
    Checks.dueTypeOf(session, "c", "list ?1");
    Checks.dueTypeOf(session, "d", "list ?0");
    Checks.dueTypeOf(session, "e", "* list ?2 list ?1");
    Checks.dueType(session, "val a = 1 :: d", "list int");
    Checks.dueTypeOf(session, "d", "list int");
    Checks.dueTypeOf(session, "c", "list ?0");
    Checks.dueTypeOf(session, "e", "* list ?1 list ?0");
  }

  private static void declaredAnew() {
    OpenTypeSession session = new OpenTypeSession();
    Checks.dueType(session, "val a = ref nil", "ref list ?0");
    // Only the old type of a has the open variable: it still keeps the new one from being general.
    Checks.dueType(session, "val a = fn b => ! a", "-> A list ?0");
    Checks.dueType(session, "val c = a 1", "list ?0");
    Checks.dueType(session, "val d = true :: c", "list bool");
    Checks.dueTypeOf(session, "a", "-> A list bool");
    Checks.dueType(session, "val a = tl nil", "list ?0");
    Checks.dueType(session, "val a = a", "list ?0");
    Checks.dueType(session, "val a = ( a , nil )", "* list ?0 list A");
    Checks.dueType(session, "val e = fst a", "list ?0");
    Checks.dueType(session, "val a = 1 :: e", "list int");
    Checks.dueTypeOf(session, "e", "list int");
    // What no declared type has any more is gone.
    Checks.dueType(session, "val f = tl nil", "list ?0");
    Checks.dueType(session, "val f = nil", "list A");
    Checks.dueType(session, "fun g b = b", "-> A A");
  }
}
