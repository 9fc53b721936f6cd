import java.util.Arrays;
import java.util.List;

/**
 * Promises 4 and 9, SYNTAX: "the first token such that no decl begins with the tokens up to it and
 * with it, or their number if the end is missing". Behind each beginning every kind of token is tried.
 */
public final class SyntaxEdgesTest {
  private static final String ATOM = " 1 true false a nil ref ! hd tl null fst snd ( let ";
  private static final String EXPR = ATOM + "fn if ";
  /** What may stand behind an atom, wherever that one stands. */
  private static final String MORE = ATOM + ":: + - < := ";
  private static final String TYPE = " int bool unit 'a ( ";
  private static final String MORE_TYPE = " list ref * -> ";

  public static void main(String[] args) {
    declarations();
    functions();
    conditions();
    brackets();
    lets();
    operators();
    atoms();
    types();
    firstAndLastPlace();
    syntaxComesFirst();
    Checks.finish();
  }

  private static List<String> everyWord() {
    String[] words = Checks.WORDS.toArray(new String[0]);
    words[0] = "1";
    words[3] = "a";
    words[35] = "'a";
    return Arrays.asList(words);
  }

  /** The tokens miss an end, and just the allowed words may come next. */
  private static void open(String before, String allowed) {
    Checks.dueDeclare(new OpenTypeSession(), before, "SYNTAX " + Checks.countWords(before));
    next(before, allowed);
  }

  /** The tokens are a whole declaration, and just the allowed words may come next. */
  private static void whole(String before, String allowed) {
    String got = Checks.declare(new OpenTypeSession(), before);
    Checks.due(before + " is a declaration", got.startsWith("SYNTAX"), false);
    next(before, allowed);
  }

  private static void next(String before, String allowed) {
    for (String word : everyWord()) {
      String got = Checks.declare(new OpenTypeSession(), before + " " + word);
      judge(before + " " + word, got, Checks.countWords(before), allowed.contains(" " + word + " "));
    }
  }

  private static void judge(String what, String got, int count, boolean allowed) {
    if (!allowed) {
      Checks.due(what, got, "SYNTAX " + count);
    } else if (got.startsWith("SYNTAX")) {
      Checks.due(what, got, "SYNTAX " + (count + 1));
    }
  }

  private static void openType(String before, String allowed) {
    OpenTypeSession session = Checks.sessionWith("val a = 1");
    Checks.dueFits(session, "a", before, "SYNTAX " + Checks.countWords(before));
    nextInType(before, allowed);
  }

  private static void wholeType(String before, String allowed) {
    String got = Checks.fits(Checks.sessionWith("val a = 1"), "a", before);
    Checks.due(before + " is a type", got.startsWith("SYNTAX"), false);
    nextInType(before, allowed);
  }

  private static void nextInType(String before, String allowed) {
    for (String word : everyWord()) {
      String got = Checks.fits(Checks.sessionWith("val a = 1"), "a", before + " " + word);
      judge("type " + before + " " + word, got, Checks.countWords(before),
          allowed.contains(" " + word + " "));
    }
  }

  /** "decl = val NAME = expr | fun NAME NAME { NAME } = expr". */
  private static void declarations() {
    open("", " val fun ");
    open("val", " a ");
    open("val a", " = ");
    open("val a =", EXPR);
    whole("val a = 1", MORE);
    open("fun", " a ");
    open("fun a", " a ");
    open("fun a b", " a = ");
    open("fun a b c", " a = ");
    open("fun a b c d e f g h i j k l a b c d e f g h i j", " a = ");
    open("fun a b =", EXPR);
    open("fun a b c =", EXPR);
    whole("fun a b = 1", MORE);
    whole("fun a b c = 1", MORE);
  }

  /** "expr = fn NAME => expr". */
  private static void functions() {
    open("val a = fn", " a ");
    open("val a = fn b", " => ");
    open("val a = fn b =>", EXPR);
    whole("val a = fn b => b", MORE);
    open("val a = fn b => fn", " a ");
    whole("val a = fn b => fn c => b", MORE);
    open("val a = ( fn b => b", MORE + ") , ");
    open("val a = fn b => if b", MORE + "then ");
  }

  /** "if expr then expr else expr". */
  private static void conditions() {
    open("val a = if", EXPR);
    open("val a = if true", MORE + "then ");
    open("val a = if true then", EXPR);
    open("val a = if true then 1", MORE + "else ");
    open("val a = if true then 1 else", EXPR);
    whole("val a = if true then 1 else 2", MORE);
    open("val a = if if true then true else false", MORE + "then ");
    open("val a = if true then if true then 1 else 2", MORE + "else ");
    whole("val a = if true then 1 else if true then 1 else 2", MORE);
    open("val a = ( if true then 1 else 2", MORE + ") , ");
    open("val a = ( if true then 1", MORE + "else ");
    open("val a = if fn b => b", MORE + "then ");
  }

  /** "( ) | ( expr ) | ( expr , expr )". */
  private static void brackets() {
    open("val a = (", EXPR + ") ");
    whole("val a = ( )", MORE);
    open("val a = ( 1", MORE + ") , ");
    whole("val a = ( 1 )", MORE);
    open("val a = ( 1 ,", EXPR);
    open("val a = ( 1 , 2", MORE + ") ");
    whole("val a = ( 1 , 2 )", MORE);
    open("val a = ( ( 1 , 2 )", MORE + ") , ");
    open("val a = ( 1 , ( 2 , 3 )", MORE + ") ");
    open("val a = ( ( )", MORE + ") , ");
    open("val a = 1 + (", EXPR + ") ");
  }

  /** "let decl in expr end". */
  private static void lets() {
    open("val a = let", " val fun ");
    open("val a = let val", " a ");
    open("val a = let val b", " = ");
    open("val a = let val b =", EXPR);
    open("val a = let val b = 1", MORE + "in ");
    open("val a = let val b = 1 in", EXPR);
    open("val a = let val b = 1 in 2", MORE + "end ");
    whole("val a = let val b = 1 in 2 end", MORE);
    open("val a = let fun", " a ");
    open("val a = let fun b", " a ");
    open("val a = let fun b c", " a = ");
    open("val a = let fun b c = 1", MORE + "in ");
    open("val a = let val b = fn c => c", MORE + "in ");
    open("val a = let val b = 1 in fn c => c", MORE + "end ");
    open("val a = let val b = let val c = 1 in 2 end", MORE + "in ");
    open("val a = ( let val b = 1 in 2", MORE + "end ");
    open("fun a b = let val c = 1 in ( b", MORE + ") , ");
  }

  /** "asgn", "cons", "cmp", "sum", "app": what an operator wants is an atom first. */
  private static void operators() {
    for (String operator : new String[] {":=", "::", "<", "+", "-"}) {
      open("val a = 1 " + operator, ATOM);
      whole("val a = 1 " + operator + " 2", MORE);
      open("val a = ( 1 " + operator, ATOM);
      open("val a = ( 1 " + operator + " 2", MORE + ") , ");
      whole("val a = 1 " + operator + " 2 < 3 + 4", MORE);
      whole("val a = 1 " + operator + " 2 :: 3 := 4", MORE);
    }
    whole("val a = hd nil", MORE);
    whole("val a = hd nil nil", MORE);
  }

  /** "atom = INT | true | false | nil | NAME | ref | ! | hd | tl | null | fst | snd". */
  private static void atoms() {
    for (String atom : "-1 true false nil b ref ! hd tl null fst snd".split(" ")) {
      whole("val a = " + atom, MORE);
      whole("val a = 1 " + atom, MORE);
      open("val a = ( " + atom, MORE + ") , ");
    }
  }

  /** "type", "prod", "post", "patom", of fits. */
  private static void types() {
    openType("", TYPE);
    for (String atom : "int bool unit 'a 'b 'c 'd".split(" ")) {
      wholeType(atom, MORE_TYPE);
      openType("( " + atom, MORE_TYPE + ") ");
    }
    for (String operator : new String[] {"*", "->"}) {
      openType("int " + operator, TYPE);
      wholeType("int " + operator + " int", MORE_TYPE);
      openType("int " + operator + " int " + operator, TYPE);
      openType("( int " + operator, TYPE);
      openType("( int " + operator + " int", MORE_TYPE + ") ");
    }
    wholeType("int list", MORE_TYPE);
    wholeType("int ref", MORE_TYPE);
    wholeType("int list ref", MORE_TYPE);
    wholeType("int -> int * int list", MORE_TYPE);
    openType("(", TYPE);
    openType("( (", TYPE);
    wholeType("( int )", MORE_TYPE);
    openType("( ( int )", MORE_TYPE + ") ");
    wholeType("( int ) list", MORE_TYPE);
    wholeType("( int -> int ) -> int", MORE_TYPE);
  }

  /** Place 0 and place 23 as the wrong token; 0 and 24 as the number of tokens. */
  private static void firstAndLastPlace() {
    String decl = "val a = 1 2 3 4 5 6 7 8 9 1 2 3 4 5 6 7 8 9 1 2";
    Checks.due("tokens of the long declaration", Checks.countWords(decl), 23);
    Checks.dueDeclare(new OpenTypeSession(), decl + " end", "SYNTAX 23");
    Checks.dueDeclare(new OpenTypeSession(), decl + " +", "SYNTAX 24");
    Checks.dueDeclare(new OpenTypeSession(), decl + " 3", "CLASH 4");
    Checks.dueDeclare(new OpenTypeSession(), "= " + decl, "SYNTAX 0");
    Checks.dueDeclare(new OpenTypeSession(), "val 1 )", "SYNTAX 1");
    OpenTypeSession session = Checks.sessionWith("val a = 1");
    String type = "int * int * int * int * int * int * int * int * int * int * int * int";
    Checks.due("tokens of the long type", Checks.countWords(type), 23);
    Checks.dueFits(session, "a", type + " int", "SYNTAX 23");
    Checks.dueFits(session, "a", type + " *", "SYNTAX 24");
    Checks.dueFits(session, "a", type + " list", "NO");
    Checks.dueFits(session, "a", ") " + type, "SYNTAX 0");
    Checks.dueFits(session, "a", "int ( )", "SYNTAX 1");
  }

  /** "the first of: SYNTAX .., UNBOUND .., CLASH .., LARGE": the wrong token stands last. */
  private static void syntaxComesFirst() {
    Checks.dueDeclare(new OpenTypeSession(), "val a = b )", "SYNTAX 4");
    Checks.dueDeclare(new OpenTypeSession(), "val a = 1 1 )", "SYNTAX 5");
    Checks.dueDeclare(new OpenTypeSession(), "val a = 1 1 +", "SYNTAX 6");
    Checks.dueDeclare(new OpenTypeSession(), "fun a b c d e f g = 1", "LARGE 10");
    Checks.dueDeclare(new OpenTypeSession(), "fun a b c d e f g = 1 )", "SYNTAX 10");
  }
}
