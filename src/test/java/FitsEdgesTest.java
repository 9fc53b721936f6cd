/** Promise 9, sentence by sentence: each boundary and both sides of it. */
public final class FitsEdgesTest {
  public static void main(String[] args) {
    syntaxComesBeforeUnbound();
    unboundNames();
    unboundHasNoPlace();
    typesWithoutVariables();
    typesPutForGeneralVariables();
    eachGeneralVariableHasOneType();
    tvarsEqualNothingElse();
    openVariablesEqualNothing();
    openVariablesAreLeft();
    groupingOfTypes();
    tokensStay();
    changesNothing();
    Checks.finish();
  }

  /** "SYNTAX (place as for declare, of a type), else UNBOUND": for names of every sort. */
  private static void syntaxComesBeforeUnbound() {
    for (int name : new int[] {0, 1, 11, -1, 12, Integer.MIN_VALUE, Integer.MAX_VALUE}) {
      OpenTypeSession session = Checks.sessionWith("val a = 1");
      Checks.due("fits(" + name + ") of nothing", Checks.fitsAsIs(session, name), "SYNTAX 0");
      Checks.spell(session, "int *");
      Checks.due("fits(" + name + ") of int *", Checks.fitsAsIs(session, name), "SYNTAX 2");
      Checks.spell(session, ")");
      Checks.due("fits(" + name + ") of int * )", Checks.fitsAsIs(session, name), "SYNTAX 2");
      session.wipe();
      Checks.spell(session, "val a = 1");
      Checks.due("fits(" + name + ") of a decl", Checks.fitsAsIs(session, name), "SYNTAX 0");
      session.wipe();
      Checks.spell(session, "int");
      Checks.due("fits(" + name + ") of int", Checks.fitsAsIs(session, name),
          name == 0 ? "OK" : "UNBOUND");
    }
  }

  /** "UNBOUND (place -1) if the name is not declared or outside 0..11". */
  private static void unboundNames() {
    OpenTypeSession session = new OpenTypeSession();
    for (char name = 'a'; name <= 'l'; name++) {
      Checks.dueFits(session, "" + name, "int", "UNBOUND");
      Checks.dueDeclare(session, "val " + name + " = 1", "OK");
      Checks.dueFits(session, "" + name, "int", "OK");
    }
    int[] outside = {-1, 12, -2, 13, -12, 24, 144, 256, Integer.MIN_VALUE, Integer.MAX_VALUE};
    for (int name : outside) {
      Checks.due("fits(" + name + ")", Checks.fitsAsIs(session, name), "UNBOUND");
    }
    session.reset();
    Checks.dueFits(session, "a", "int", "UNBOUND");
    Checks.dueFits(session, "l", "int", "UNBOUND");
    Checks.dueDeclare(session, "val a = 1 1", "CLASH 4");
    Checks.dueFits(session, "a", "int", "UNBOUND");
  }

  private static void unboundHasNoPlace() {
    OpenTypeSession session = new OpenTypeSession();
    Checks.dueDeclare(session, "val a = b", "UNBOUND 3");
    Checks.dueFits(session, "b", "int", "UNBOUND");
    Checks.due("place behind fits", session.place(), -1);
    Checks.dueFits(session, "b", "int int", "SYNTAX 1");
    Checks.dueFits(session, "b", "int", "UNBOUND");
    Checks.due("place behind fits", session.place(), -1);
  }

  /** "OK if its type .. can be that type": each shape against each. */
  private static void typesWithoutVariables() {
    String[][] types = {{"1", "int"}, {"true", "bool"}, {"( )", "unit"}, {"1 :: nil", "int list"},
        {"true :: nil", "bool list"}, {"( 1 , 2 )", "int * int"}, {"( 1 , true )", "int * bool"},
        {"( true , 1 )", "bool * int"}, {"fn b => b + 1", "int -> int"},
        {"fn b => b < 1", "int -> bool"}, {"fn b => if b then 1 else 2", "bool -> int"},
        {"ref 1", "int ref"}, {"ref true", "bool ref"}, {"ref ( 1 :: nil )", "int list ref"},
        {"ref 1 :: nil", "int ref list"}};
    for (String[] own : types) {
      OpenTypeSession session = Checks.sessionWith("val a = " + own[0]);
      for (String[] spelled : types) {
        Checks.dueFits(session, "a", spelled[1], own == spelled ? "OK" : "NO");
      }
      Checks.dueFits(session, "a", "'a", "NO");
    }
  }

  /** "with types put for its general variables". */
  private static void typesPutForGeneralVariables() {
    OpenTypeSession session = Checks.sessionWith("val a = nil", "fun b c = hd nil", "fun d e = d e");
    for (String part : new String[] {"int", "bool", "unit", "'a", "'d", "int list", "'a ref",
        "( int * 'b )", "( 'a -> 'b -> 'c )", "'a list ref list"}) {
      Checks.dueFits(session, "a", part + " list", "OK");
      Checks.dueFits(session, "a", part + " ref", "NO");
      Checks.dueFits(session, "b", part + " -> int", "OK");
      Checks.dueFits(session, "b", "int -> " + part, "OK");
      Checks.dueFits(session, "b", "int * " + part, "NO");
    }
    OpenTypeSession large = Checks.sessionWith("fun a b = b");
    String pairs = "int * int * int * int * int * int";
    Checks.dueFits(large, "a", pairs + " -> " + pairs, "OK");
    Checks.dueFits(large, "a", pairs + " -> " + pairs.replaceFirst("int$", "'a"), "NO");
  }

  /** One variable is one type wherever it stands; two may be the same one. */
  private static void eachGeneralVariableHasOneType() {
    OpenTypeSession session = Checks.sessionWith("fun a b = ( b , b )");
    Checks.dueFits(session, "a", "int -> int * int", "OK");
    Checks.dueFits(session, "a", "int -> int * bool", "NO");
    Checks.dueFits(session, "a", "int -> bool * int", "NO");
    Checks.dueFits(session, "a", "bool -> int * int", "NO");
    Checks.dueFits(session, "a", "'a list -> 'a list * 'a list", "OK");
    Checks.dueFits(session, "a", "'a list -> 'a list * 'b list", "NO");
    Checks.dueFits(session, "a", "'a list -> 'a list * 'a ref", "NO");
    OpenTypeSession two = Checks.sessionWith("fun a b c = ( b , c )");
    Checks.dueFits(two, "a", "int -> bool -> int * bool", "OK");
    Checks.dueFits(two, "a", "int -> int -> int * int", "OK");
    Checks.dueFits(two, "a", "int -> bool -> bool * int", "NO");
    Checks.dueFits(two, "a", "'a -> 'a -> 'a * 'a", "OK");
  }

  /** "each TVAR is a type of its own that equals nothing else". */
  private static void tvarsEqualNothingElse() {
    OpenTypeSession session = Checks.sessionWith("fun a b = b", "fun c d = d + 1", "fun e f = e f",
        "fun i j = tl j");
    String[] parts = {"'a", "'b", "'c", "'d", "int", "'a list"};
    for (String one : parts) {
      for (String other : parts) {
        Checks.dueFits(session, "a", one + " -> " + other, one.equals(other) ? "OK" : "NO");
      }
    }
    Checks.dueFits(session, "c", "'a -> 'a", "NO");
    Checks.dueFits(session, "c", "'a -> int", "NO");
    Checks.dueFits(session, "c", "int -> 'a", "NO");
    Checks.dueFits(session, "e", "'a -> 'b", "OK");
    Checks.dueFits(session, "e", "'d -> 'd", "OK");
    Checks.dueFits(session, "i", "'a list -> 'a list", "OK");
    Checks.dueFits(session, "i", "'a list -> 'b list", "NO");
    Checks.dueFits(session, "i", "'a -> 'a", "NO");
    for (String shape : new String[] {"1 :: nil", "ref 1", "( 1 , 2 )", "fn b => b"}) {
      Checks.dueDeclare(session, "val k = " + shape, "OK");
      Checks.dueFits(session, "k", "'a", "NO");
    }
  }

  /** "and an open variable equals nothing". */
  private static void openVariablesEqualNothing() {
    OpenTypeSession session = Checks.sessionWith("val a = hd nil", "val b = ( a , a )",
        "fun c d = ( d , a )", "val e = ref nil");
    for (String part : new String[] {"int", "bool", "unit", "'a", "'b", "'c", "'d", "int list"}) {
      Checks.dueFits(session, "a", part, "NO");
      Checks.dueFits(session, "b", part + " * " + part, "NO");
      Checks.dueFits(session, "c", "int -> int * " + part, "NO");
      Checks.dueFits(session, "e", part + " list ref", "NO");
    }
    Checks.dueFits(session, "c", "'a -> 'a * 'a", "NO");
    Checks.dueDeclare(session, "val f = a + 1", "OK");
    Checks.dueFits(session, "a", "int", "OK");
    Checks.dueFits(session, "b", "int * int", "OK");
    Checks.dueFits(session, "c", "'a -> 'a * int", "OK");
    Checks.dueFits(session, "c", "'a -> 'a * 'b", "NO");
    Checks.dueFits(session, "e", "int list ref", "NO");
  }

  /** "but is left as it is": it stays open, and what it is settled to is free afterwards. */
  private static void openVariablesAreLeft() {
    OpenTypeSession session =
        Checks.sessionWith("val a = ref nil", "val b = ref nil", "fun c d = ( d , ! b )");
    String types = "a: ref list ?0; b: ref list ?1; c: -> A * A list ?1; ";
    Checks.dueFits(session, "a", "int list ref", "NO");
    Checks.dueFits(session, "b", "int list ref", "NO");
    Checks.dueFits(session, "c", "int -> int * int list", "NO");
    Checks.due("types behind fits", Checks.types(session), types);
    Checks.dueDeclare(session, "val d = ( a := true :: nil , b := ( ) :: nil )", "OK");
    Checks.due("types settled", Checks.types(session),
        "a: ref list bool; b: ref list unit; c: -> A * A list unit; d: * unit unit; ");
    Checks.dueFits(session, "a", "bool list ref", "OK");
    Checks.dueFits(session, "c", "int -> int * unit list", "OK");
  }

  /** "type = prod [ -> type ]", "prod = post [ * prod ]", "post = patom { list | ref }". */
  private static void groupingOfTypes() {
    String[][] types = {{"fn b => fn c => b + c", "int -> int -> int"},
        {"fn b => b 1 + 1", "( int -> int ) -> int"}, {"( 1 , ( 2 , 3 ) )", "int * int * int"},
        {"( ( 1 , 2 ) , 3 )", "( int * int ) * int"}, {"( 1 , 2 ) :: nil", "( int * int ) list"},
        {"( 1 , 2 :: nil )", "int * int list"}, {"( fn b => b + 1 ) :: nil", "( int -> int ) list"},
        {"fn b => b + 1 :: nil", "int -> int list"}, {"( 1 , fn b => b + 1 )", "int * ( int -> int )"},
        {"fn b => fst b + snd b", "int * int -> int"}};
    for (String[] own : types) {
      OpenTypeSession session = Checks.sessionWith("val a = " + own[0]);
      for (String[] spelled : types) {
        Checks.dueFits(session, "a", spelled[1], own == spelled ? "OK" : "NO");
        Checks.dueFits(session, "a", "( ( " + spelled[1] + " ) )", own == spelled ? "OK" : "NO");
      }
    }
    OpenTypeSession session = Checks.sessionWith("fun a b c = b + c", "val c = ( 1 , ( 2 , 3 ) )");
    Checks.dueFits(session, "a", "int -> ( int -> int )", "OK");
    Checks.dueFits(session, "c", "( int ) * ( ( int ) * int )", "OK");
  }

  /** "The tokens stay.": behind each answer. */
  private static void tokensStay() {
    OpenTypeSession session = Checks.sessionWith("fun a b = b");
    Checks.spell(session, "int -> int");
    Checks.due("fits", Checks.fitsAsIs(session, 0), "OK");
    Checks.due("fits again", Checks.fitsAsIs(session, 0), "OK");
    Checks.due("fits of no name", Checks.fitsAsIs(session, 1), "UNBOUND");
    Checks.due("fits behind UNBOUND", Checks.fitsAsIs(session, 0), "OK");
    Checks.spell(session, "list");
    Checks.due("fits of more tokens", Checks.fitsAsIs(session, 0), "NO");
    Checks.due("fits again", Checks.fitsAsIs(session, 0), "NO");
    Checks.spell(session, "*");
    Checks.due("fits of more tokens", Checks.fitsAsIs(session, 0), "SYNTAX 5");
    Checks.due("fits again", Checks.fitsAsIs(session, 0), "SYNTAX 5");
    Checks.due("wipe behind fits", session.wipe(), 5);
    Checks.spell(session, "val c = 1");
    Checks.due("fits of a declaration", Checks.fitsAsIs(session, 0), "SYNTAX 0");
    Checks.due("declare behind fits", Checks.declareAsIs(session), "OK");
    Checks.dueTypeOf(session, "c", "int");
  }

  private static void changesNothing() {
    OpenTypeSession session = Checks.sessionWith("fun a b = b", "val c = hd nil");
    String types = Checks.types(session);
    Checks.dueFits(session, "a", "int -> int", "OK");
    Checks.dueFits(session, "a", "int -> bool", "NO");
    Checks.dueFits(session, "b", "int -> bool", "UNBOUND");
    Checks.dueFits(session, "a", "int ->", "SYNTAX 2");
    Checks.due("types behind fits", Checks.types(session), types);
    Checks.dueFits(session, "a", "bool -> bool", "OK");
    Checks.due("reset behind fits", session.reset(), 2);
  }
}
