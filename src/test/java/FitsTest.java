/** Promise 9: fits, with SYNTAX of types, UNBOUND, OK and NO. */
public final class FitsTest {
  public static void main(String[] args) {
    syntax();
    unbound();
    grouping();
    generalVariables();
    openVariables();
    changesNothing();
    largeSpelledTypes();
    Checks.finish();
  }

  private static void syntax() {
    OpenTypeSession session = new OpenTypeSession();
    Checks.dueDeclare(session, "val a = 1", "OK");
    Checks.dueFits(session, "a", "", "SYNTAX 0");
    Checks.dueFits(session, "a", "val", "SYNTAX 0");
    Checks.dueFits(session, "a", "1", "SYNTAX 0");
    Checks.dueFits(session, "a", "a", "SYNTAX 0");
    Checks.dueFits(session, "a", "list", "SYNTAX 0");
    Checks.dueFits(session, "a", "ref", "SYNTAX 0");
    Checks.dueFits(session, "a", "-> int", "SYNTAX 0");
    Checks.dueFits(session, "a", "int int", "SYNTAX 1");
    Checks.dueFits(session, "a", "int )", "SYNTAX 1");
    Checks.dueFits(session, "a", "int ->", "SYNTAX 2");
    Checks.dueFits(session, "a", "int -> ->", "SYNTAX 2");
    Checks.dueFits(session, "a", "int *", "SYNTAX 2");
    Checks.dueFits(session, "a", "int * list", "SYNTAX 2");
    Checks.dueFits(session, "a", "(", "SYNTAX 1");
    Checks.dueFits(session, "a", "( )", "SYNTAX 1");
    Checks.dueFits(session, "a", "( int", "SYNTAX 2");
    Checks.dueFits(session, "a", "( int , int )", "SYNTAX 2");
    Checks.dueFits(session, "a", "( int list ref -> 'a )", "NO");
    Checks.dueFits(session, "a", "( ( int ) )", "OK");
  }

  private static void unbound() {
    OpenTypeSession session = new OpenTypeSession();
    Checks.dueDeclare(session, "val a = 1", "OK");
    Checks.dueFits(session, "b", "int", "UNBOUND");
    Checks.dueFits(session, "b", "int int", "SYNTAX 1");
    for (int name : new int[] {-1, 12, 100, Integer.MIN_VALUE, Integer.MAX_VALUE}) {
      session.wipe();
      Checks.spell(session, "int");
      Checks.due("fits(" + name + ")", session.fits(name), OpenTypeSession.UNBOUND);
      Checks.due("its place", session.place(), -1);
      Checks.spell(session, "(");
      Checks.due("fits(" + name + ") of no type", session.fits(name), OpenTypeSession.SYNTAX);
      Checks.due("its place", session.place(), 1);
    }
    session.reset();
    Checks.dueFits(session, "a", "int", "UNBOUND");
  }

  private static void grouping() {
    OpenTypeSession session = new OpenTypeSession();
    Checks.dueType(session, "fun a b c = b + c", "-> int -> int int");
    Checks.dueFits(session, "a", "int -> int -> int", "OK");
    Checks.dueFits(session, "a", "int -> ( int -> int )", "OK");
    Checks.dueFits(session, "a", "( int -> int ) -> int", "NO");
    Checks.dueType(session, "val a = ( 1 , ( true , ( ) ) )", "* int * bool unit");
    Checks.dueFits(session, "a", "int * bool * unit", "OK");
    Checks.dueFits(session, "a", "int * ( bool * unit )", "OK");
    Checks.dueFits(session, "a", "( int * bool ) * unit", "NO");
    Checks.dueType(session, "fun a b = ( b + 1 , true ) :: nil", "-> int list * int bool");
    Checks.dueFits(session, "a", "int -> ( int * bool ) list", "OK");
    Checks.dueFits(session, "a", "int -> int * bool list", "NO");
    Checks.dueType(session, "fun a b = ( fst b < 1 , snd b + 1 )", "-> * int int * bool int");
    Checks.dueFits(session, "a", "int * int -> bool * int", "OK");
    Checks.dueFits(session, "a", "int * ( int -> bool ) * int", "NO");
    Checks.dueType(session, "val a = ref ( 1 :: nil )", "ref list int");
    Checks.dueFits(session, "a", "int list ref", "OK");
    Checks.dueFits(session, "a", "int ref list", "NO");
  }

  private static void generalVariables() {
    OpenTypeSession session = new OpenTypeSession();
    Checks.dueType(session, "fun a b c = ( b , c )", "-> A -> B * A B");
    Checks.dueFits(session, "a", "'a -> 'b -> 'a * 'b", "OK");
    Checks.dueFits(session, "a", "'d -> 'c -> 'd * 'c", "OK");
    Checks.dueFits(session, "a", "'a -> 'a -> 'a * 'a", "OK");
    Checks.dueFits(session, "a", "'a -> 'b -> 'b * 'a", "NO");
    Checks.dueFits(session, "a", "int -> 'a list -> int * 'a list", "OK");
    Checks.dueFits(session, "a", "int -> 'a list -> int * 'b list", "NO");
    Checks.dueFits(session, "a", "( int -> 'a ) -> bool -> ( int -> 'a ) * bool", "OK");
    Checks.dueFits(session, "a", "( int -> 'a ) -> bool -> ( 'a -> int ) * bool", "NO");
    Checks.dueFits(session, "a", "'a", "NO");
    Checks.dueType(session, "fun a b = b", "-> A A");
    Checks.dueFits(session, "a", "'a -> 'b", "NO");
    Checks.dueFits(session, "a", "'a -> int", "NO");
    Checks.dueFits(session, "a", "int -> bool", "NO");
    Checks.dueFits(session, "a", "'a list -> 'a list", "OK");
    Checks.dueFits(session, "a", "'a list -> 'a", "NO");
    Checks.dueType(session, "fun a b = b + 1", "-> int int");
    Checks.dueFits(session, "a", "'a -> 'a", "NO");
    Checks.dueFits(session, "a", "int -> 'a", "NO");
    Checks.dueFits(session, "a", "int -> int", "OK");
  }

  private static void openVariables() {
    OpenTypeSession session = new OpenTypeSession();
    Checks.dueType(session, "val a = ref nil", "ref list ?0");
    for (String part : new String[] {"int", "'a", "'b", "unit", "int list"}) {
      Checks.dueFits(session, "a", part + " list ref", "NO");
    }
    Checks.dueTypeOf(session, "a", "ref list ?0");
    Checks.dueType(session, "fun c b = ( b , ! a )", "-> A * A list ?0");
    Checks.dueFits(session, "c", "'a -> 'a * 'b list", "NO");
    Checks.dueFits(session, "c", "'a -> 'a * 'a list", "NO");
    Checks.dueType(session, "val b = a := 1 :: nil", "unit");
    Checks.dueFits(session, "a", "int list ref", "OK");
    Checks.dueFits(session, "a", "'a list ref", "NO");
    Checks.dueFits(session, "c", "'a -> 'a * int list", "OK");
  }

  private static void changesNothing() {
    OpenTypeSession session = new OpenTypeSession();
    Checks.dueType(session, "fun a b = b", "-> A A");
    session.wipe();
    Checks.spell(session, "int -> int");
    Checks.due("fits", session.fits(0), OpenTypeSession.OK);
    Checks.due("fits again", session.fits(0), OpenTypeSession.OK);
    Checks.spell(session, "list");
    Checks.due("fits of more tokens", session.fits(0), OpenTypeSession.NO);
    Checks.due("the tokens stay", session.wipe(), 4);
    Checks.dueTypeOf(session, "a", "-> A A");
    Checks.due("reset behind fits", session.reset(), 1);
  }

  private static void largeSpelledTypes() {
    OpenTypeSession session = new OpenTypeSession();
    Checks.dueType(session, "fun a b = b", "-> A A");
    String large = "int * int * int * int * int * int";
    Checks.dueFits(session, "a", large + " -> " + large, "OK");
    String larger = "int list list list list list list list list list list list";
    Checks.dueFits(session, "a", larger + " -> " + larger.substring(0, larger.length() - 5), "NO");
    Checks.dueFits(session, "a", larger.substring(0, 53) + " -> " + larger.substring(0, 53), "OK");
  }
}
