/** Promise 4: SYNTAX and UNBOUND with their places, and the grouping that the grammar gives. */
public final class SyntaxTest {
  public static void main(String[] args) {
    declarations();
    expressions();
    brackets();
    missingEnds();
    syntaxBeforeAllElse();
    grouping();
    unbound();
    scopes();
    unboundBeforeClash();
    Checks.finish();
  }

  private static void due(String text, String want) {
    Checks.dueDeclare(new OpenTypeSession(), text, want);
  }

  private static void declarations() {
    due("", "SYNTAX 0");
    due("a", "SYNTAX 0");
    due("int", "SYNTAX 0");
    due("val", "SYNTAX 1");
    due("val 1", "SYNTAX 1");
    due("val a", "SYNTAX 2");
    due("val a b = 1", "SYNTAX 2");
    due("val a =", "SYNTAX 3");
    due("val a = =", "SYNTAX 3");
    due("val a = 1 val", "SYNTAX 4");
    due("val a = 1 end", "SYNTAX 4");
    due("val a = 1 )", "SYNTAX 4");
    due("val a = 1 ,", "SYNTAX 4");
    due("fun", "SYNTAX 1");
    due("fun f", "SYNTAX 2");
    due("fun f = 1", "SYNTAX 2");
    due("fun f a", "SYNTAX 3");
    due("fun f a 1", "SYNTAX 3");
    due("fun f a b c d e =", "SYNTAX 8");
    due("fun f a b c d e = 1", "OK");
    due("fun f a => 1", "SYNTAX 3");
  }

  private static void expressions() {
    due("val a = fn", "SYNTAX 4");
    due("val a = fn 1", "SYNTAX 4");
    due("val a = fn b", "SYNTAX 5");
    due("val a = fn b = 1", "SYNTAX 5");
    due("val a = fn b c => 1", "SYNTAX 5");
    due("val a = fn b =>", "SYNTAX 6");
    due("val a = if true", "SYNTAX 5");
    due("val a = if then", "SYNTAX 4");
    due("val a = if true then 1", "SYNTAX 7");
    due("val a = if true else 1", "SYNTAX 5");
    due("val a = if true then 1 else", "SYNTAX 8");
    due("val a = 1 + if true then 1 else 2", "SYNTAX 5");
    due("val a = 1 + fn b => b", "SYNTAX 5");
    due("val a = hd fn b => b", "SYNTAX 4");
    due("val a = nil := fn b => b", "SYNTAX 5");
    due("val a = 1 :: fn b => b", "SYNTAX 5");
    due("val a = 1 +", "SYNTAX 5");
    due("val a = + 1", "SYNTAX 3");
    due("val a = - 1", "SYNTAX 3");
    due("val a = 1 + + 1", "SYNTAX 5");
    due("val a = 1 <", "SYNTAX 5");
    due("val a = 1 ::", "SYNTAX 5");
    due("val a = ref :=", "SYNTAX 5");
    due("val a = 1 * 1", "SYNTAX 4");
    due("val a = int", "SYNTAX 3");
    due("val a = nil list", "SYNTAX 4");
    due("val a = 'a", "SYNTAX 3");
    due("val a = let", "SYNTAX 4");
    due("val a = let b", "SYNTAX 4");
    due("val a = let val b = 1", "SYNTAX 8");
    due("val a = let val b = 1 end", "SYNTAX 8");
    due("val a = let val b = 1 in", "SYNTAX 9");
    due("val a = let val b = 1 in end", "SYNTAX 9");
    due("val a = let val b = 1 in 2", "SYNTAX 10");
    due("val a = let val b = 1 val c = 2 in 3 end", "SYNTAX 8");
    due("val a = let val b = 1 in 2 in", "SYNTAX 10");
    due("val a = let val b = 1 in 2 end", "OK");
    due("val a = let val b = 1 in fn c => c end", "OK");
  }

  private static void brackets() {
    due("val a = (", "SYNTAX 4");
    due("val a = )", "SYNTAX 3");
    due("val a = ( )", "OK");
    due("val a = ( ,", "SYNTAX 4");
    due("val a = ( 1", "SYNTAX 5");
    due("val a = ( 1 ,", "SYNTAX 6");
    due("val a = ( 1 , )", "SYNTAX 6");
    due("val a = ( 1 , 2", "SYNTAX 7");
    due("val a = ( 1 , 2 , 3 )", "SYNTAX 7");
    due("val a = ( 1 , 2 )", "OK");
    due("val a = ( ( ) , ( 1 ) )", "OK");
    due("val a = ( 1 ) )", "SYNTAX 6");
    due("val a = ( fn b => b , fn b => b )", "OK");
    due("val a = ( ( ( ( ( ( ( ( ( ( ( ( ( ( ( ( ( ( ( ( (", "SYNTAX 24");
    due("val a = ( ( ( ( ( ( ( ( ( ( 1 ) ) ) ) ) ) ) ) ) )", "OK");
  }

  private static void missingEnds() {
    String whole = "fun f a = if true then let val b = ( 1 , 2 ) in b end else ( a";
    String[] words = whole.split(" ");
    StringBuilder text = new StringBuilder();
    for (int i = 0; i < words.length; i++) {
      text.append(words[i]).append(" ");
      due(text.toString(), "SYNTAX " + (i + 1));
      due(text + "int", "SYNTAX " + (i + 1));
    }
  }

  private static void syntaxBeforeAllElse() {
    due("val a = b + (", "SYNTAX 6");
    due("val a = true + 1 )", "SYNTAX 6");
  }

  private static void grouping() {
    OpenTypeSession session = new OpenTypeSession();
    Checks.dueType(session, "val a = 1 - 2 - 3", "int");
    Checks.dueDeclare(session, "val b = 1 < 2 < 3", "CLASH 6");
    Checks.dueType(session, "val b = 1 + 2 < 3 + 4", "bool");
    Checks.dueType(session, "val b = 1 < 2 :: nil", "list bool");
    Checks.dueType(session, "val b = 1 :: 2 :: nil", "list int");
    Checks.dueDeclare(session, "val b = ( 1 :: 2 ) :: nil", "CLASH 5");
    Checks.dueType(session, "fun b c d = c := d := 1", "-> ref unit -> ref int unit");
    Checks.dueType(session, "fun b c d = c := d :: nil", "-> ref list A -> A unit");
    Checks.dueType(session, "fun c d e = d e e", "-> -> A -> A B -> A B");
    Checks.dueDeclare(session, "fun c d e = d ( e e )", "CLASH 8");
  }

  private static void unbound() {
    due("val a = a", "UNBOUND 3");
    due("val a = b", "UNBOUND 3");
    due("val a = ( 1 , b + c )", "UNBOUND 6");
    due("fun f a = f a b", "UNBOUND 6");
    due("val a = let val b = b in c end", "UNBOUND 7");
    due("val a = let val b = 1 in c end", "UNBOUND 9");
    due("val a = let fun b c = c in c end", "UNBOUND 10");
    due("val a = ( let val b = 1 in b end , b )", "UNBOUND 13");
    due("val a = ( fn b => b ) b", "UNBOUND 9");
    due("val a = ( let fun b c = b c in b end , c )", "UNBOUND 15");
    OpenTypeSession session = new OpenTypeSession();
    Checks.dueDeclare(session, "val a = 1", "OK");
    Checks.dueDeclare(session, "val b = a + c", "UNBOUND 5");
    Checks.dueDeclare(session, "val a = a + 1", "OK");
    session.reset();
    Checks.dueDeclare(session, "val b = a", "UNBOUND 3");
    Checks.dueDeclare(session, "val b = 1 + true", "CLASH 4");
    Checks.dueDeclare(session, "val c = b", "UNBOUND 3");
  }

  private static void scopes() {
    OpenTypeSession session = new OpenTypeSession();
    Checks.dueDeclare(session, "val a = 1", "OK");
    Checks.dueType(session, "val b = fn a => a", "-> A A");
    Checks.dueType(session, "val c = let val a = true in a end", "bool");
    Checks.dueType(session, "val d = ( let val a = true in a end , a )", "* bool int");
    Checks.dueType(session, "val a = a :: nil", "list int");
    Checks.dueType(session, "val e = let val a = ( a , a ) in a end", "* list int list int");
    Checks.dueType(session, "fun f f = f", "-> A A");
    Checks.dueType(session, "fun f a a = a", "-> A -> B B");
    Checks.dueType(session, "fun f a b a = ( a , b )", "-> A -> B -> C * C B");
    Checks.dueType(session, "val g = fn a => fn a => a", "-> A -> B B");
    Checks.dueType(session, "val h = fn a => let fun a b = b in a end", "-> A -> B B");
    Checks.dueType(session, "fun h a = if true then a else h a", "-> A A");
    Checks.dueType(session, "val h = fn i => let val h = i in h + 1 end", "-> int int");
  }

  private static void unboundBeforeClash() {
    due("val a = ( 1 + true , b )", "UNBOUND 8");
    due("fun f a = ( a a , b )", "UNBOUND 8");
  }
}
