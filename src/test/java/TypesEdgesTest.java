/** "Terms" as promise 4 uses them: NAMES, TYPES, the demands with their places, GENERAL and FIRM. */
public final class TypesEdgesTest {
  public static void main(String[] args) {
    valBindsBehindItsExpr();
    funBindsItsNames();
    equalNamesTheLastCounts();
    fnBindsInItsExpr();
    innermostThenLatest();
    newVariablesAtEachUse();
    otherVariablesStayAtEachUse();
    noGeneralOnesInside();
    repetitionsGroupToTheLeft();
    assignAndConsGroupToTheRight();
    tighterOperators();
    applicationDemand();
    sumDemands();
    lessDemands();
    consDemand();
    assignDemand();
    pairHasNoDemand();
    ifDemands();
    funDemand();
    containsItself();
    nearlyContainsItself();
    earlierDemandsCount();
    partsBeforeTheWhole();
    firmOnes();
    unfirmOnes();
    firmAroundUnfirm();
    funIsAlwaysGeneral();
    bindingsAroundFix();
    bindingsThatEndedDoNot();
    openOnesFix();
    Checks.finish();
  }

  private static void type(String text, String want) {
    Checks.dueType(new OpenTypeSession(), text, want);
  }

  private static void due(String text, String want) {
    Checks.dueDeclare(new OpenTypeSession(), text, want);
  }

  // ---- NAMES ----

  /** "val binds its NAME behind its expr, in the rest (let: between in and end)." */
  private static void valBindsBehindItsExpr() {
    due("val a = a", "UNBOUND 3");
    due("val a = fn b => a", "UNBOUND 6");
    due("val a = let val b = b in 1 end", "UNBOUND 7");
    due("val a = let val b = fn c => b in 1 end", "UNBOUND 10");
    type("val a = let val b = true in b end", "bool");
    due("val a = let val b = true in 1 end b", "UNBOUND 11");
    due("val a = ( b , let val b = true in b end )", "UNBOUND 4");
  }

  /** "fun binds its first NAME in its own expr too, the other NAMEs only there". */
  private static void funBindsItsNames() {
    type("fun a b = if true then 1 else a b", "-> A int");
    type("fun a b c = ( b , c )", "-> A -> B * A B");
    type("val a = let fun b c = if true then 1 else b c in b end", "-> ?0 int");
    due("val a = let fun b c = c in c end", "UNBOUND 10");
    due("val a = let fun b c d = c in d end", "UNBOUND 11");
    due("val a = let fun b c = c in 1 end b", "UNBOUND 12");
    OpenTypeSession session = Checks.sessionWith("fun a b = b");
    Checks.dueDeclare(session, "val c = b", "UNBOUND 3");
    Checks.dueDeclare(session, "val c = a", "OK");
  }

  /** "(of equal ones the last counts)". */
  private static void equalNamesTheLastCounts() {
    type("fun a b b = b + 1", "-> A -> int int");
    type("fun a b c b = b + 1", "-> A -> B -> int int");
    type("fun a b b b = b + 1", "-> A -> B -> int int");
    type("fun a a = a + 1", "-> int int");
    type("fun a a a = a + 1", "-> A -> int int");
    type("fun a b a = a + b", "-> int -> int int");
  }

  /** "fn binds its NAME in its expr." */
  private static void fnBindsInItsExpr() {
    type("val a = fn b => b", "-> A A");
    type("val a = fn b => fn b => b + 1", "-> A -> int int");
    due("val a = ( fn b => 1 ) b", "UNBOUND 9");
    due("val a = ( fn b => 1 , b )", "UNBOUND 9");
    due("val a = b ( fn b => b )", "UNBOUND 3");
  }

  /** "A NAME means the innermost binding around it, else the latest declaration of that name." */
  private static void innermostThenLatest() {
    OpenTypeSession session = Checks.sessionWith("val a = 1", "val a = true");
    Checks.dueType(session, "val b = a", "bool");
    Checks.dueType(session, "val b = ( let val a = ( ) in a end , a )", "* unit bool");
    Checks.dueType(session, "val b = ( fn a => a + 1 , a )", "* -> int int bool");
    Checks.dueType(session, "val b = let val a = 1 in let val a = ( ) in a end end", "unit");
    Checks.dueType(session, "val b = let val a = 1 in ( let val a = ( ) in a end , a ) end",
        "* unit int");
    Checks.dueType(session, "val b = let fun a c = c + 1 in a end", "-> int int");
    Checks.dueType(session, "val a = ( a , a )", "* bool bool");
    Checks.dueType(session, "val b = a", "* bool bool");
  }

  // ---- TYPES ----

  /** "each use of the NAME has that type with its general variables replaced by new variables". */
  private static void newVariablesAtEachUse() {
    for (String name : "nil ref ! hd tl null fst snd".split(" ")) {
      OpenTypeSession session = Checks.sessionWith("val a = " + name);
      String one = Checks.type(session, "a");
      String other = one.replace('B', 'D').replace('A', one.contains("B") ? 'C' : 'B');
      Checks.dueType(session, "val b = ( a , a )", "* " + one + " " + other);
      Checks.dueType(session, "val b = ( " + name + " , " + name + " )", "* " + one + " " + other);
      Checks.dueTypeOf(session, "a", one);
      String open = one.replace("A", "?0").replace("B", "?1");
      String open2 = one.replace("A", one.contains("B") ? "?2" : "?1").replace("B", "?3");
      Checks.dueType(session, "val b = let val c = " + name + " in ( c , c ) end",
          "* " + open + " " + open2);
    }
    type("val a = let fun b c = c in ( b 1 , b true ) end", "* int bool");
    type("val a = let val b = nil in ( 1 :: b , true :: b ) end", "* list int list bool");
  }

  /** Beside its general variables, a type may have others: these are the same at each use. */
  private static void otherVariablesStayAtEachUse() {
    type("fun a b = let val c = ( b , nil ) in 1 :: snd c end", "-> A list int");
    type("fun a b = let val c = ( nil , b ) in 1 :: fst c end", "-> A list int");
    type("fun a b = let val c = ( b , nil ) in fst c + 1 end", "-> int int");
    type("fun a b = let val c = ( nil , b ) in ( snd c + 1 , c ) end", "-> int * int * list A int");
    type("fun a b = let fun c d = ( d , b ) in ( c 1 , c true ) end", "-> A * * int A * bool A");
    OpenTypeSession session = Checks.sessionWith("val a = hd nil", "fun b c = ( c , a )");
    Checks.dueType(session, "val d = ( b 1 , b true )", "* * int ?0 * bool ?0");
    Checks.dueType(session, "val d = snd ( b 1 ) + 1", "int");
    Checks.dueTypeOf(session, "b", "-> A * A int");
  }

  /**
   * "NAMEs bound by fn, the further NAMEs of fun, and in fun's own expr its first NAME, have no
   * general ones."
   */
  private static void noGeneralOnesInside() {
    due("val a = fn b => ( b 1 , b true )", "CLASH 11");
    due("fun a b = ( b 1 , b true )", "CLASH 9");
    due("fun a b c = ( c 1 , c true )", "CLASH 10");
    due("fun a b = ( a 1 , a true )", "CLASH 9");
    due("val a = let fun b c = ( b 1 , b true ) in b end", "CLASH 13");
    type("val a = fn b => ( b 1 , b 2 )", "-> -> int A * A A");
  }

  // ---- GRAMMAR: what an operator takes is seen by the place of the clash ----

  /** "Repetitions group to the left." */
  private static void repetitionsGroupToTheLeft() {
    for (String first : new String[] {"+", "-"}) {
      for (String second : new String[] {"+", "-"}) {
        due("val a = true " + first + " 1 " + second + " true", "CLASH 4");
        due("val a = true " + first + " ( 1 " + second + " true )", "CLASH 7");
      }
    }
    due("val a = 1 < 2 < 3", "CLASH 6");
    due("val a = 1 < ( 2 < 3 )", "CLASH 4");
    type("fun a b c d = b c d", "-> -> A -> B C -> A -> B C");
    type("fun a b c d = b ( c d )", "-> -> A B -> -> C A -> C B");
    due("val a = 1 2 3 4", "CLASH 4");
  }

  /** "asgn = cons [ := asgn ]", "cons = cmp [ :: cons ]". */
  private static void assignAndConsGroupToTheRight() {
    type("fun a b c = b := c := 1", "-> ref unit -> ref int unit");
    due("fun a b c = ( b := c ) := 1", "CLASH 10");
    type("fun a b c = b :: c :: nil", "-> A -> A list A");
    type("fun a b c d = ( b :: c ) :: d", "-> A -> list A -> list list A list list A");
    due("val a = 1 :: 2 :: 3", "CLASH 6");
  }

  /** Application is tighter than + and -, these than <, that than ::, and that than :=. */
  private static void tighterOperators() {
    type("fun a b c = b c + 1", "-> -> A int -> A int");
    type("fun a b c = 1 - b c", "-> -> A int -> A int");
    type("val a = 1 + 2 < 3 - 4", "bool");
    due("val a = 1 + ( 2 < 3 ) - 4", "CLASH 4");
    type("val a = 1 < 2 :: 3 < 4 :: nil", "list bool");
    type("fun a b c = b :: c < 1 :: nil", "-> bool -> int list bool");
    due("fun a b c = b :: c := 1", "CLASH 8");
    due("fun a b c = b < c := 1", "CLASH 8");
    due("fun a b c = b + c := 1", "CLASH 8");
    type("fun a b c = b c := 1", "-> -> A ref int -> A unit");
    type("fun a b c = b := c :: nil", "-> ref list A -> A unit");
    type("fun a b c = b := c + 1", "-> ref int -> int unit");
    type("val a = fn b => b + 1", "-> int int");
    type("fun a b = if b then 1 else 2 + 3", "-> bool int");
    due("fun a b = if b then 1 else 2 :: nil", "CLASH 4");
    due("fun a b = ( if b then 1 else 2 ) :: nil", "OK");
  }

  // ---- Demands ----

  /** "An application f x has a new type b; DEMAND: the type of f is (type of x) -> b." */
  private static void applicationDemand() {
    type("fun a b c = b c", "-> -> A B -> A B");
    type("fun a b c d = b c d", "-> -> A -> B C -> A -> B C");
    due("val a = 1 ( 2 , 3 )", "CLASH 4");
    due("val a = hd ( ( 1 , 2 ) )", "CLASH 4");
    due("val a = hd nil nil 1 ( ! 2 )", "CLASH 9");
    due("val a = fst ( 1 , 2 ) 3", "CLASH 9");
    due("val a = null ( 1 :: nil ) let val b = 1 in b end", "CLASH 9");
  }

  /** "+ and -: int; demand: left int, then right int." */
  private static void sumDemands() {
    for (String operator : new String[] {"+", "-"}) {
      type("fun a b c = b " + operator + " c", "-> int -> int int");
      due("val a = true " + operator + " 1", "CLASH 4");
      due("val a = 1 " + operator + " true", "CLASH 4");
      due("val a = 1 " + operator + " 2 " + operator + " ( )", "CLASH 6");
      due("val a = true " + operator + " 2 " + operator + " 3", "CLASH 4");
    }
  }

  /** "<: bool; the same demands." */
  private static void lessDemands() {
    type("fun a b c = b < c", "-> int -> int bool");
    due("val a = true < 1", "CLASH 4");
    due("val a = 1 < true", "CLASH 4");
    due("val a = 1 < 2 < 3", "CLASH 6");
    due("val a = 1 + ( 1 < 2 )", "CLASH 4");
  }

  /** "s :: t has the type of t; demand: that is (type of s) list." */
  private static void consDemand() {
    type("fun a b c = b :: c", "-> A -> list A list A");
    due("val a = 1 :: 2", "CLASH 4");
    due("val a = 1 :: true :: nil", "CLASH 4");
    due("val a = true :: 1 :: 2 :: nil", "CLASH 4");
    due("val a = 1 :: ( nil , nil )", "CLASH 4");
  }

  /** "s := t: unit; demand: the type of s is (type of t) ref." */
  private static void assignDemand() {
    type("fun a b c = b := c", "-> ref A -> A unit");
    due("val a = 1 := 1", "CLASH 4");
    due("val a = nil := nil", "CLASH 4");
    due("val a = ref 1 := ref 1", "CLASH 5");
    due("fun a b c = b := c := 1 + true", "CLASH 10");
  }

  /** "( s , t ): the pair." */
  private static void pairHasNoDemand() {
    type("val a = ( 1 , true )", "* int bool");
    type("fun a b c = ( c , b )", "-> A -> B * B A");
  }

  /** "if c then s else t: the type of s; demand: c bool, then t as s." */
  private static void ifDemands() {
    type("fun a b c d = if b then c else d", "-> bool -> A -> A A");
    due("val a = if 1 then 2 else 3", "CLASH 3");
    due("val a = if true then 2 else true", "CLASH 3");
    due("val a = ( if true then true else 2 )", "CLASH 4");
    due("val a = if true then 1 else if 1 then 2 else 3", "CLASH 8");
  }

  /** "fun f x y .. = e: demand: the type of f is (type of x) -> (type of y) -> .. -> (type of e)." */
  private static void funDemand() {
    type("fun a b c = a c b", "-> A -> A B");
    due("fun a b = a", "CLASH 3");
    due("fun a b c d e = a", "CLASH 6");
    due("fun a b = if true then 1 else a + 1", "CLASH 3");
    due("val a = let fun b c d = b in 1 end", "CLASH 8");
  }

  /** "(a type would have to contain itself, too)". */
  private static void containsItself() {
    due("fun a b = b b", "CLASH 5");
    due("fun a b = b ( b , 1 )", "CLASH 5");
    due("fun a b = b :: b", "CLASH 5");
    due("fun a b = b := b", "CLASH 5");
    due("fun a b = b := ref b", "CLASH 5");
    due("fun a b = if true then b else ( b , 1 )", "CLASH 4");
    due("fun a b = if true then b else ( 1 , b )", "CLASH 4");
    due("fun a b = if true then b else fn c => b", "CLASH 4");
    due("fun a b = if true then b else fst b", "CLASH 4");
    due("fun a b = if true then b else hd b", "CLASH 4");
    due("fun a b = if true then b else ! b", "CLASH 4");
    due("fun a b c = ( b :: c , c :: b )", "CLASH 11");
    due("fun a b = ( b , a )", "CLASH 3");
    OpenTypeSession session = Checks.sessionWith("val a = ref nil", "val b = ref nil");
    Checks.dueDeclare(session, "val c = a := a :: nil", "CLASH 4");
    Checks.dueDeclare(session, "val c = ( a := b :: nil , b := a :: nil )", "CLASH 11");
    Checks.dueDeclare(session, "val c = a := b :: nil", "OK");
    Checks.dueDeclare(session, "val d = b := a :: nil", "CLASH 4");
    Checks.due("types", Checks.types(session),
        "a: ref list ref list ?0; b: ref list ?0; c: unit; ");
  }

  /** A type may stand in itself where it is the whole: equal types clash with nothing. */
  private static void nearlyContainsItself() {
    type("fun a b = if true then b else b", "-> A A");
    type("fun a b c = ( b :: c , c )", "-> A -> list A * list A list A");
    type("val a = fn b => ( b := ! b )", "-> ref A unit");
    type("val a = fn b => hd b :: tl b", "-> list A list A");
    type("fun a b = a ( a b )", "-> A A");
    type("val a = ( fn b => b ) ( fn b => b )", "-> ?0 ?0");
    OpenTypeSession session = Checks.sessionWith("val a = ref nil");
    Checks.dueDeclare(session, "val b = a := ! a", "OK");
    Checks.dueTypeOf(session, "a", "ref list ?0");
  }

  /** "Each is kept together with all before it (those of earlier declarations too)". */
  private static void earlierDemandsCount() {
    due("fun a b = ( b + 1 , b < 1 )", "OK");
    due("fun a b = ( b + 1 , hd b )", "CLASH 10");
    OpenTypeSession session = Checks.sessionWith("val a = ref nil", "val b = ! a", "val c = a := 1 :: nil");
    Checks.dueDeclare(session, "val d = true :: b", "CLASH 4");
    Checks.dueDeclare(session, "val d = 1 :: b", "OK");
    Checks.dueDeclare(session, "val d = a := true :: nil", "CLASH 4");
  }

  /**
   * "those of the parts of an expression from left to right (the decl of a let before the rest), then
   * its own".
   */
  private static void partsBeforeTheWhole() {
    due("val a = ( 1 1 ) ( 2 2 )", "CLASH 5");
    due("val a = 1 ( 2 2 )", "CLASH 6");
    due("val a = true + ( 2 2 )", "CLASH 7");
    due("val a = ( 2 2 ) + true", "CLASH 5");
    due("val a = true < ( 2 2 )", "CLASH 7");
    due("val a = 1 :: 2 2", "CLASH 6");
    due("val a = 1 1 :: 2", "CLASH 4");
    due("val a = 1 := 2 2", "CLASH 6");
    due("val a = ( 1 1 , 2 2 )", "CLASH 5");
    due("val a = ( 1 , 2 2 )", "CLASH 7");
    due("val a = if 1 then 2 2 else 3", "CLASH 7");
    due("val a = if 1 then 2 else 3 3", "CLASH 9");
    due("val a = if 1 1 then 2 2 else 3 3", "CLASH 5");
    due("val a = let val b = 1 1 in 2 2 end", "CLASH 8");
    due("val a = let val b = 1 in 2 2 end", "CLASH 10");
    due("val a = let fun b c = b in 2 2 end", "CLASH 7");
    due("val a = 1 let val b = 1 1 in b end", "CLASH 9");
    due("fun a b = a ( 1 1 )", "CLASH 7");
  }

  // ---- GENERAL and FIRM ----

  /** "FIRM are INT, true, false, nil, ( ), NAME, ref, !, .. snd, every fn": beside nil in a pair. */
  private static void firmOnes() {
    String[][] firm = {{"1", "int"}, {"true", "bool"}, {"false", "bool"}, {"( )", "unit"},
        {"nil", "list A"}, {"ref", "-> A ref A"}, {"!", "-> ref A A"}, {"hd", "-> list A A"},
        {"tl", "-> list A list A"}, {"null", "-> list A bool"}, {"fst", "-> * A B A"},
        {"snd", "-> * A B B"}, {"b", "int"}, {"fn c => c", "-> A A"}, {"fn c => tl nil", "-> A list B"},
        {"( 1 )", "int"}, {"( nil )", "list A"}, {"( fn c => c )", "-> A A"},
        {"1 :: nil", "list int"}, {"nil :: nil", "list list A"}, {"( 1 , nil )", "* int list A"}};
    for (String[] one : firm) {
      OpenTypeSession session = Checks.sessionWith("val b = 1");
      Checks.dueType(session, "val a = " + one[0], one[1]);
      String next = one[1].contains("B") ? "C" : one[1].contains("A") ? "B" : "A";
      Checks.dueType(session, "val a = ( " + one[0] + " , nil )", "* " + one[1] + " list " + next);
    }
    // A NAME is firm whatever it means, and its general variables are general again.
    OpenTypeSession session = Checks.sessionWith("val b = nil");
    Checks.dueType(session, "val a = b", "list A");
    Checks.dueType(session, "fun a c = let val d = c in ( d , nil ) end", "-> A * A list B");
  }

  /** What is not in the list is not firm: beside it in a pair the variable of nil stays open. */
  private static void unfirmOnes() {
    String[][] unfirm = {{"1 + 2", "int"}, {"1 - 2", "int"}, {"1 < 2", "bool"}, {"b := 1", "unit"},
        {"! b", "int"}, {"if true then 1 else 2", "int"}, {"let val c = 1 in 2 end", "int"},
        {"let val c = 1 in c end", "int"}, {"let fun c d = d in 1 end", "int"},
        {"( fn c => 1 ) 2", "int"}, {"( 1 + 2 )", "int"}, {"( ( ! b ) )", "int"}};
    for (String[] one : unfirm) {
      OpenTypeSession session = Checks.sessionWith("val b = ref 1");
      Checks.dueType(session, "val a = " + one[0], one[1]);
      Checks.dueType(session, "val a = ( " + one[0] + " , nil )", "* " + one[1] + " list ?0");
      Checks.dueType(session, "val a = ( nil , " + one[0] + " )", "* list ?0 " + one[1]);
    }
    type("val a = tl nil", "list ?0");
    type("val a = if true then nil else nil", "list ?0");
    type("val a = let val b = nil in b end", "list ?0");
    type("val a = let val b = 1 in fn c => c end", "-> ?0 ?0");
    type("val a = ( fn b => fn c => c ) 1", "-> ?0 ?0");
  }

  /** "and :: and pairs and brackets around firm ones." */
  private static void firmAroundUnfirm() {
    type("val a = nil :: nil :: nil", "list list A");
    type("val a = ( nil , nil ) :: nil", "list * list A list B");
    type("val a = tl nil :: nil", "list list ?0");
    type("val a = nil :: tl nil", "list list ?0");
    type("val a = nil :: nil :: tl nil", "list list ?0");
    type("val a = ( nil :: nil )", "list list A");
    type("val a = ( ( ( nil ) ) )", "list A");
    type("val a = ( ( ( tl nil ) ) )", "list ?0");
    type("val a = ( nil , ( nil , tl nil ) )", "* list ?0 * list ?1 list ?2");
    type("val a = ( ( tl nil , nil ) , nil )", "* * list ?0 list ?1 list ?2");
    type("val a = ( nil , ( nil , nil ) )", "* list A * list B list C");
    type("val a = ( fn b => tl nil ) :: nil", "list -> A list B");
  }

  /** "for fun, and for val if the expr is FIRM: all variables ..; else none." */
  private static void funIsAlwaysGeneral() {
    type("fun a b = tl nil", "-> A list B");
    type("fun a b = let val c = ref nil in c end", "-> A ref list B");
    type("fun a b = if true then nil else nil", "-> A list B");
    type("val a = fn b => if true then nil else nil", "-> A list B");
    type("val a = let fun b c = tl nil in ( 1 :: b 1 , true :: b 2 ) end", "* list int list bool");
    due("val a = let val b = tl nil in ( 1 :: b , true :: b ) end", "CLASH 16");
    due("val a = let val b = if true then nil else nil in ( 1 :: b , true :: b ) end", "CLASH 20");
  }

  /** "in no type of a binding around it (of fn, fun or let) without being general there". */
  private static void bindingsAroundFix() {
    due("val a = fn b => let val c = b in ( c 1 , c true ) end", "CLASH 17");
    due("fun a b = let val c = b in ( c 1 , c true ) end", "CLASH 15");
    due("fun a b d = let val c = b in ( c 1 , c true ) end", "CLASH 16");
    due("fun a b = let val c = a in ( c 1 , c true ) end", "CLASH 15");
    due("fun a b = let val b = b in ( b 1 , b true ) end", "CLASH 15");
    due("val a = let val b = hd nil in let val c = b in c 1 + c true end end", "CLASH 20");
    due("fun a b = let val c = fn d => b in ( c 1 1 , c 1 true ) end", "CLASH 20");
    type("fun a b = let val c = fn d => b in ( c 1 , c true ) end", "-> A * A A");
    // The let around has general ones and others; only the others are fixed.
    type("fun a b = let val c = ( b , nil ) in let val d = c in d end end", "-> A * A list B");
    type("val a = let val b = fst in let val c = b in c ( c , 1 ) end end", "-> * ?0 ?1 ?0");
    // Both a variable of its own and a fixed one.
    due("fun a b = let fun c d = ( b , d ) in ( c 1 , c true ) end", "OK");
    due("fun a b = let fun c d = b d in ( c 1 , c true ) end", "CLASH 17");
    // A variable inside the type of a binding around is fixed too.
    due("fun a b = let fun c d = hd b in ( c 1 + 1 , c 1 1 ) end", "CLASH 20");
    // And one that the binding got by a demand after it was bound.
    due("fun a b = let val c = fn d => b d in ( c 1 , c true ) end", "CLASH 19");
  }

  /** Bindings that have ended, and the NAMEs of fun themselves, are not around it any more. */
  private static void bindingsThatEndedDoNot() {
    type("fun a b = b", "-> A A");
    type("val a = let fun b c = b c in ( b 1 + 1 , b true ) end", "* int ?0");
    type("fun a b = ( let val c = hd nil in c end , b )", "-> A * B A");
    type("fun a b = let val c = hd nil in c end", "-> A B");
  }

  /**
   * "all variables that are not OPEN": "OPEN are the variables that are not general in the types of
   * the declared NAMEs".
   */
  private static void openOnesFix() {
    OpenTypeSession session = Checks.sessionWith("val a = hd nil");
    Checks.dueType(session, "val b = a", "?0");
    Checks.dueType(session, "val b = fn c => a", "-> A ?0");
    Checks.dueType(session, "fun b c = ( c , a )", "-> A * A ?0");
    Checks.dueType(session, "fun b c = if true then c else a", "-> ?0 ?0");
    Checks.dueDeclare(session, "val d = let val c = a in ( c 1 , c true ) end", "CLASH 14");
    Checks.dueDeclare(session, "val d = let fun c e = a e in ( c 1 , c true ) end", "CLASH 16");
    // Only one declared name has it, and that one under a general variable.
    Checks.dueType(session, "val a = fn c => a", "-> A ?0");
    Checks.dueType(session, "val b = fn c => fn d => a d", "-> A -> B ?0");
    Checks.dueType(session, "val e = ( a true , nil )", "* ?0 list ?1");
  }
}
