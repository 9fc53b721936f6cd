/** Promise 4: the types, the demands in their order with their places, and what is general. */
public final class TypesTest {
  public static void main(String[] args) {
    constants();
    wholeFunctions();
    placesOfClashes();
    orderOfDemands();
    typesThatContainThemselves();
    firm();
    letIsGeneral();
    bindingsAround();
    funIsNotGeneralInside();
    openVariables();
    openInsideLet();
    Checks.finish();
  }

  private static void due(String text, String want) {
    Checks.dueType(new OpenTypeSession(), text, want);
  }

  private static void clash(String text, int place) {
    Checks.dueDeclare(new OpenTypeSession(), text, "CLASH " + place);
  }

  private static void constants() {
    due("val a = -7", "int");
    due("val a = true", "bool");
    due("val a = false", "bool");
    due("val a = ( )", "unit");
    due("val a = nil", "list A");
    due("val a = ref", "-> A ref A");
    due("val a = !", "-> ref A A");
    due("val a = hd", "-> list A A");
    due("val a = tl", "-> list A list A");
    due("val a = null", "-> list A bool");
    due("val a = fst", "-> * A B A");
    due("val a = snd", "-> * A B B");
    due("val a = ( hd , hd )", "* -> list A A -> list B B");
  }

  private static void wholeFunctions() {
    due("fun a b c = if null c then nil else b ( hd c ) :: a b ( tl c )",
        "-> -> A B -> list A list B");
    due("fun a b c d = b ( c d )", "-> -> A B -> -> C A -> C B");
    due("fun a b = ( snd b , fst b )", "-> * A B * B A");
    due("fun a b c = b := c", "-> ref A -> A unit");
    due("fun a b c = b < c", "-> int -> int bool");
    due("fun a b c = b - c", "-> int -> int int");
    due("fun a b = a b", "-> A B");
    due("fun a b = if b then 1 else 2", "-> bool int");
    due("fun a b = b := ! b + 1", "-> ref int unit");
    due("val a = fn b => b ( )", "-> -> unit A A");
    due("val a = fn b => fn c => b :: c", "-> A -> list A list A");
  }

  private static void placesOfClashes() {
    clash("val a = 1 2", 4);
    clash("val a = hd ( 1 + 2 )", 4);
    clash("val a = hd ( ( 1 ) )", 4);
    clash("val a = hd let val b = 1 in b end", 4);
    clash("val a = hd nil nil 3 true + ( )", 8);
    clash("val a = hd 1 ( 2 + true )", 4);
    clash("val a = true + 1", 4);
    clash("val a = 1 - true", 4);
    clash("val a = 1 < true", 4);
    clash("val a = 1 + 2 + true", 6);
    clash("val a = 1 :: 2", 4);
    clash("val a = 1 :: true :: nil", 4);
    clash("val a = ref 1 := true", 5);
    clash("val a = 1 := 1", 4);
    clash("val a = if 1 then 2 else 3", 3);
    clash("val a = if true then 2 else nil", 3);
    clash("val a = ( 1 , if true then 2 else nil )", 6);
    clash("fun a b = a", 3);
    clash("fun a b c = a", 4);
    clash("val a = let fun b c d = b in b end", 8);
  }

  private static void orderOfDemands() {
    clash("val a = ( 1 + true ) + true", 5);
    clash("val a = true + ( 1 + true )", 7);
    clash("val a = 1 ( 2 + true )", 6);
    clash("val a = if 1 then 2 + true else 3", 7);
    clash("val a = if 1 then 2 else 3 + true", 9);
    clash("val a = let val b = 1 + true in 1 + nil end", 8);
    clash("val a = let val b = 1 in b + nil end", 10);
    clash("val a = ( 1 2 , 3 4 )", 5);
    clash("val a = 1 :: ( true :: 2 :: nil )", 7);
    clash("fun a b = ( b + 1 , b true )", 10);
    clash("fun a b = ( b true , b + 1 )", 9);
    clash("fun a b = a 1 + a true", 8);
    clash("fun a b = ( a 1 , b ) + 1", 10);
  }

  private static void typesThatContainThemselves() {
    clash("fun a b = b b", 5);
    clash("val a = fn b => b :: b", 7);
    clash("val a = fn b => b := b", 7);
    clash("val a = fn b => if true then b else ( b , b )", 6);
    clash("fun a b = a", 3);
    clash("fun a b = ( a , b )", 3);
    clash("val a = fn b => fn c => ( b c , c b )", 14);
    OpenTypeSession session = new OpenTypeSession();
    Checks.dueType(session, "val a = ref nil", "ref list ?0");
    Checks.dueDeclare(session, "val b = a := a :: nil", "CLASH 4");
    Checks.dueDeclare(session, "val b = a := ! a :: nil", "CLASH 4");
    Checks.dueDeclare(session, "val b = a := hd ( ! a ) :: nil", "OK");
    Checks.dueTypeOf(session, "a", "ref list ?0");
  }

  private static void firm() {
    due("val a = fn b => b", "-> A A");
    due("val a = ( fn b => b )", "-> A A");
    due("val a = ( ( nil ) )", "list A");
    due("val a = ( nil , ref )", "* list A -> B ref B");
    due("val a = nil :: nil", "list list A");
    due("val a = fn b => ref nil", "-> A ref list B");
    due("val a = ( fn b => b ) ( fn b => b )", "-> ?0 ?0");
    due("val a = ref nil", "ref list ?0");
    due("val a = tl nil", "list ?0");
    due("val a = if true then nil else nil", "list ?0");
    due("val a = let val b = nil in b end", "list ?0");
    due("val a = let val b = 1 in nil end", "list ?0");
    due("val a = ( nil , tl nil )", "* list ?0 list ?1");
    due("val a = ( tl nil , nil )", "* list ?0 list ?1");
    due("val a = nil :: tl nil", "list list ?0");
    due("val a = tl nil :: nil", "list list ?0");
    due("val a = ( ( tl nil ) )", "list ?0");
    due("val a = ( if true then nil else nil , nil )", "* list ?0 list ?1");
    due("fun a b = tl nil", "-> A list B");
    OpenTypeSession session = new OpenTypeSession();
    Checks.dueType(session, "val a = nil", "list A");
    Checks.dueType(session, "val b = a", "list A");
    Checks.dueType(session, "val c = ( a , a )", "* list A list B");
    Checks.dueType(session, "val d = tl a", "list ?0");
    Checks.dueType(session, "val e = d", "list ?0");
    Checks.dueType(session, "val e = ( a , d )", "* list A list ?0");
  }

  private static void letIsGeneral() {
    due("val a = let val b = fn c => c in ( b 1 , b true ) end", "* int bool");
    due("val a = let fun b c = c in ( b 1 , b true ) end", "* int bool");
    due("val a = let val b = nil in ( 1 :: b , true :: b ) end", "* list int list bool");
    clash("val a = let val b = tl nil in ( 1 :: b , true :: b ) end", 16);
    clash("val a = let val b = ref nil in ( b := 1 :: nil , b := nil :: nil ) end", 18);
    clash("val a = ( fn b => ( b 1 , b true ) ) ( fn c => c )", 12);
  }

  private static void bindingsAround() {
    due("val a = fn b => let val c = b in ( c , c ) end", "-> A * A A");
    clash("val a = fn b => let val c = b in ( c 1 , c true ) end", 17);
    clash("fun a b = let fun c d = b d in ( c 1 , c true ) end", 17);
    clash("fun a b = let val c = fn d => a d in ( c 1 , c true ) end", 19);
    // The type of c is fixed by b, which is not general; that of d's own argument is.
    due("fun a b = let fun d c = ( b , c ) in ( d 1 , d true ) end", "-> A * * A int * A bool");
    // A let's NAME that is not general fixes its variables for a let inside.
    clash("val a = let val b = hd nil in let val c = b in c 1 + c true end end", 20);
    due("val a = let fun b d = b d in let val c = b in c 1 + c true end end", "int");
  }

  private static void funIsNotGeneralInside() {
    clash("fun a b = ( a 1 , a true )", 9);
    due("fun a b = a ( a b )", "-> A A");
    clash("fun a b = a ( b , b )", 3);
  }

  private static void openVariables() {
    OpenTypeSession session = new OpenTypeSession();
    Checks.dueType(session, "val c = ref nil", "ref list ?0");
    Checks.dueType(session, "val a = ! c", "list ?0");
    Checks.dueType(session, "fun b d = d :: a", "-> ?0 list ?0");
    Checks.dueType(session, "fun e d = ( d , a )", "-> A * A list ?0");
    Checks.dueType(session, "val f = ref nil", "ref list ?1");
    Checks.dueDeclare(session, "val g = c := true :: 1 :: nil", "CLASH 6");
    Checks.dueTypeOf(session, "c", "ref list ?0");
    Checks.dueType(session, "val g = c := ( 1 , f ) :: nil", "unit");
    Checks.dueTypeOf(session, "a", "list * int ref list ?0");
    Checks.dueTypeOf(session, "b", "-> * int ref list ?0 list * int ref list ?0");
    Checks.dueTypeOf(session, "f", "ref list ?0");
    Checks.dueType(session, "val g = f := true :: nil", "unit");
    Checks.dueTypeOf(session, "a", "list * int ref list bool");
    Checks.dueTypeOf(session, "e", "-> A * A list * int ref list bool");
    Checks.dueDeclare(session, "val g = f := 1 :: nil", "CLASH 4");
  }

  private static void openInsideLet() {
    OpenTypeSession session = new OpenTypeSession();
    Checks.dueType(session, "val a = ref nil", "ref list ?0");
    Checks.dueDeclare(session, "val b = let val c = ! a in ( 1 :: c , true :: c ) end", "CLASH 16");
    Checks.dueDeclare(session, "val b = let fun c d = d :: ! a in ( c 1 , c true ) end", "CLASH 18");
    Checks.dueTypeOf(session, "a", "ref list ?0");
    Checks.dueType(session, "val b = let fun c d = d :: ! a in c end", "-> ?0 list ?0");
  }
}
