/** Promises 1 to 3, sentence by sentence: each boundary and both sides of it. */
public final class TokensEdgesTest {
  private static final int LEAST = Integer.MIN_VALUE;
  private static final int MOST = Integer.MAX_VALUE;

  public static void main(String[] args) {
    newObjectHasNoTokens();
    newObjectHasNoDeclarations();
    newObjectsShareNothing();
    kindOutside();
    intTakesAnyValue();
    nameOutside();
    tvarOutside();
    otherValuesAreNotLookedAt();
    twentyFourTokens();
    refusedTokenChangesNothing();
    wipeAnswersTheNumber();
    wipeRemovesTokensAlone();
    Checks.finish();
  }

  private static OpenTypeSession withTokens(int count) {
    OpenTypeSession session = new OpenTypeSession();
    for (int i = 0; i < count; i++) {
      Checks.due("token " + i, session.token(0, i), true);
    }
    return session;
  }

  // ---- Promise 1 ----

  /** "No tokens": each call is the first one of its object. */
  private static void newObjectHasNoTokens() {
    Checks.due("wipe of a new object", new OpenTypeSession().wipe(), 0);
    Checks.due("declare of a new object", Checks.declareAsIs(new OpenTypeSession()), "SYNTAX 0");
    for (int name = -1; name <= 12; name++) {
      Checks.due("fits(" + name + ") of a new object",
          Checks.fitsAsIs(new OpenTypeSession(), name), "SYNTAX 0");
    }
    Checks.due("all 24 tokens find room", withTokens(24).wipe(), 24);
  }

  /** "no declarations": each call is the first one of its object. */
  private static void newObjectHasNoDeclarations() {
    Checks.due("reset of a new object", new OpenTypeSession().reset(), 0);
    Checks.due("place of a new object", new OpenTypeSession().place(), -1);
    for (int name = -1; name <= 12; name++) {
      Checks.due("size(" + name + ") of a new object", new OpenTypeSession().size(name), 0);
      for (int k = -1; k <= 12; k++) {
        Checks.due("node(" + name + ", " + k + ")", new OpenTypeSession().node(name, k), -1);
      }
    }
    for (char name = 'a'; name <= 'l'; name++) {
      Checks.dueFits(new OpenTypeSession(), "" + name, "int", "UNBOUND");
      Checks.dueDeclare(new OpenTypeSession(), "val a = " + name, "UNBOUND 3");
    }
    Checks.dueType(new OpenTypeSession(), "val l = hd nil", "?0");
  }

  private static void newObjectsShareNothing() {
    OpenTypeSession one = new OpenTypeSession();
    Checks.spell(one, "val a =");
    OpenTypeSession other = new OpenTypeSession();
    Checks.spell(other, "val b = tl");
    Checks.spell(one, "1");
    Checks.due("declare of one", Checks.declareAsIs(one), "OK");
    Checks.spell(other, "nil");
    Checks.due("declare of the other", Checks.declareAsIs(other), "OK");
    Checks.dueDeclare(one, "val", "SYNTAX 1");
    Checks.due("types of one", Checks.types(one), "a: int; ");
    Checks.due("types of the other", Checks.types(other), "b: list ?0; ");
    Checks.due("place of the other", other.place(), -1);
    Checks.due("reset of one", one.reset(), 1);
    Checks.due("reset of the other", other.reset(), 1);
  }

  // ---- Promise 2 ----

  /** "False, changing nothing, if kind is outside 0..37". */
  private static void kindOutside() {
    int[] outside = {-1, 38, -2, 39, 40, 63, 64, 100, 127, 128, 255, 256, 65536, -37, -256, LEAST,
        LEAST + 7, MOST};
    for (int kind : outside) {
      for (int value : new int[] {0, -1, 11, MOST}) {
        OpenTypeSession session = new OpenTypeSession();
        Checks.due("token(" + kind + ", " + value + ")", session.token(kind, value), false);
        Checks.due("wipe behind it", session.wipe(), 0);
      }
    }
    for (int kind = 0; kind <= 37; kind++) {
      OpenTypeSession session = new OpenTypeSession();
      Checks.due("token(" + kind + ", 0)", session.token(kind, 0), true);
      Checks.due("wipe behind it", session.wipe(), 1);
    }
  }

  /** "INT (any int)". */
  private static void intTakesAnyValue() {
    for (int value : new int[] {LEAST, LEAST + 1, -12, -1, 0, 1, 3, 4, 11, 12, 23, 24, MOST - 1, MOST}) {
      OpenTypeSession session = new OpenTypeSession();
      Checks.spell(session, "val c =");
      Checks.due("token(0, " + value + ")", session.token(0, value), true);
      Checks.due("declare of it", Checks.declareAsIs(session), "OK");
      Checks.dueTypeOf(session, "c", "int");
    }
  }

  /** "a value that is looked at is outside its range": "NAME (0..11)". */
  private static void nameOutside() {
    for (int value : new int[] {-1, 12, -2, 13, 16, 255, 256, 65536, -12, LEAST, MOST}) {
      OpenTypeSession session = new OpenTypeSession();
      Checks.due("token(3, " + value + ")", session.token(3, value), false);
      Checks.due("wipe behind it", session.wipe(), 0);
    }
    for (int value = 0; value <= 11; value++) {
      OpenTypeSession session = new OpenTypeSession();
      Checks.spell(session, "val");
      Checks.due("token(3, " + value + ")", session.token(3, value), true);
      Checks.spell(session, "= 1");
      Checks.due("declare of it", Checks.declareAsIs(session), "OK");
      Checks.due("the name it declares", Checks.types(session), (char) ('a' + value) + ": int; ");
    }
  }

  /** "a value that is looked at is outside its range": "TVAR (0..3)". */
  private static void tvarOutside() {
    for (int value : new int[] {-1, 4, -2, 5, 8, 11, 12, 256, 65536, -4, LEAST, MOST}) {
      OpenTypeSession session = new OpenTypeSession();
      Checks.due("token(35, " + value + ")", session.token(35, value), false);
      Checks.due("wipe behind it", session.wipe(), 0);
    }
    OpenTypeSession session = Checks.sessionWith("fun a b = b");
    for (int first = 0; first <= 3; first++) {
      for (int second = 0; second <= 3; second++) {
        session.wipe();
        Checks.due("token(35, " + first + ")", session.token(35, first), true);
        Checks.spell(session, "->");
        Checks.due("token(35, " + second + ")", session.token(35, second), true);
        Checks.due("TVAR " + first + " as TVAR " + second, Checks.fitsAsIs(session, 0),
            first == second ? "OK" : "NO");
      }
    }
  }

  /** "kind and value (looked at for 0, 3, 35 alone)". */
  private static void otherValuesAreNotLookedAt() {
    for (int odd : new int[] {-1, 1, 3, 4, 11, 12, 35, 38, LEAST, MOST}) {
      for (int kind = 0; kind <= 37; kind++) {
        if (kind != 3 && kind != 35) {
          OpenTypeSession session = new OpenTypeSession();
          Checks.due("token(" + kind + ", " + odd + ")", session.token(kind, odd), true);
          Checks.due("wipe behind it", session.wipe(), 1);
        }
      }
      OpenTypeSession session = new OpenTypeSession();
      declareOddly(session, odd, "fun a b c = if null b then let val d = hd b in d end else c + 1");
      declareOddly(session, odd, "val b = ( fn c => c := snd ( false , 1 - 2 ) , ( ) )");
      declareOddly(session, odd, "val c = ( ! ( ref true ) , fst ( tl nil , nil ) )");
      declareOddly(session, odd, "fun d e = 1 < e :: nil");
      Checks.due("types with the values " + odd, Checks.types(session),
          "a: -> list int -> int int; b: * -> ref int unit unit; c: * bool list ?0; "
              + "d: -> int list bool; ");
      spellOddly(session, odd, "int list -> ( int -> int )");
      Checks.due("fits with the values " + odd, Checks.fitsAsIs(session, 0), "OK");
      session.wipe();
      spellOddly(session, odd, "( int ref -> unit ) * unit");
      Checks.due("fits with the values " + odd, Checks.fitsAsIs(session, 1), "OK");
      session.wipe();
      spellOddly(session, odd, "int -> bool list");
      Checks.due("fits with the values " + odd, Checks.fitsAsIs(session, 3), "OK");
    }
  }

  private static void declareOddly(OpenTypeSession session, int odd, String text) {
    spellOddly(session, odd, text);
    Checks.due("declare " + text + " with the values " + odd, Checks.declareAsIs(session), "OK");
  }

  private static void spellOddly(OpenTypeSession session, int odd, String text) {
    for (String word : text.split(" +")) {
      int kind = Checks.kindOf(word);
      boolean lookedAt = kind == 0 || kind == 3 || kind == 35;
      Checks.due("token " + word, session.token(kind, lookedAt ? Checks.valueOf(word) : odd), true);
    }
  }

  /** "or there are 24 tokens". */
  private static void twentyFourTokens() {
    for (int kind = 0; kind <= 37; kind++) {
      OpenTypeSession session = withTokens(23);
      Checks.due("the 24th token of kind " + kind, session.token(kind, 0), true);
      Checks.due("the 25th token of kind " + kind, session.token(kind, 0), false);
      Checks.due("once more", session.token(kind, 0), false);
      Checks.due("wipe", session.wipe(), 24);
      Checks.due("token behind wipe", session.token(kind, 0), true);
    }
    OpenTypeSession session = new OpenTypeSession();
    String whole = "val a = ( 1 , ( 2 , ( 3 , ( 4 , ( 5 , 6 ) ) ) ) )";
    Checks.spell(session, whole);
    Checks.due("the 25th token behind a whole declaration", session.token(3, 1), false);
    Checks.due("declare of 24 tokens", Checks.declareAsIs(session), "OK");
    Checks.dueTypeOf(session, "a", "* int * int * int * int * int int");
    Checks.spell(session, whole);
    Checks.due("24 more, then one", session.token(15, 0), false);
  }

  /** "False, changing nothing": the tokens, place, the types and the number accepted. */
  private static void refusedTokenChangesNothing() {
    int[][] refused = {{-1, 0}, {38, 0}, {3, -1}, {3, 12}, {35, -1}, {35, 4}, {LEAST, LEAST}, {MOST, 1}};
    OpenTypeSession session = Checks.sessionWith("val a = ref nil", "fun b c = c");
    Checks.dueDeclare(session, "val d = 1 :: 2", "CLASH 4");
    for (int[] token : refused) {
      Checks.due("token(" + token[0] + ", " + token[1] + ")", session.token(token[0], token[1]), false);
      Checks.due("place behind it", session.place(), 4);
    }
    Checks.due("types behind them", Checks.types(session), "a: ref list ?0; b: -> A A; ");
    Checks.spell(session, ":: nil");
    Checks.due("declare behind them", Checks.declareAsIs(session), "OK");
    Checks.dueTypeOf(session, "d", "list int");
    Checks.due("reset behind them", session.reset(), 3);
    OpenTypeSession full = new OpenTypeSession();
    Checks.dueDeclare(full, "val a = ( ( ( ( ( ( ( ( ( ( ( ( ( ( ( ( ( ( ( ( 1", "SYNTAX 24");
    Checks.due("a token too many", full.token(16, 0), false);
    Checks.due("place behind it", full.place(), 24);
    Checks.due("declare behind it", Checks.declareAsIs(full), "SYNTAX 24");
    Checks.due("a wrong one too many", full.token(38, 0), false);
    Checks.due("wipe behind them", full.wipe(), 24);
  }

  // ---- Promise 3 ----

  /** "Removes all tokens; answers their number." */
  private static void wipeAnswersTheNumber() {
    for (int count = 0; count <= 24; count++) {
      OpenTypeSession session = withTokens(count);
      Checks.due("wipe of " + count, session.wipe(), count);
      Checks.due("wipe again", session.wipe(), 0);
    }
    OpenTypeSession session = withTokens(3);
    session.token(38, 0);
    session.token(3, 12);
    Checks.due("wipe behind refused tokens", session.wipe(), 3);
    session.token(35, 4);
    Checks.due("wipe behind a refused token alone", session.wipe(), 0);
    Checks.dueDeclare(session, "val a = 1", "OK");
    Checks.due("wipe behind OK", session.wipe(), 0);
    Checks.dueFits(session, "a", "int", "OK");
    Checks.due("wipe behind fits", session.wipe(), 1);
    Checks.dueFits(session, "a", "int list", "NO");
    Checks.due("wipe behind fits", session.wipe(), 2);
  }

  /** "Removes all tokens": no other token comes into the next declaration, and nothing else goes. */
  private static void wipeRemovesTokensAlone() {
    OpenTypeSession session = Checks.sessionWith("val a = ref nil");
    Checks.dueDeclare(session, "val b = a a a a", "CLASH 4");
    session.wipe();
    Checks.due("place behind wipe", session.place(), 4);
    Checks.due("types behind wipe", Checks.types(session), "a: ref list ?0; ");
    Checks.due("declare behind wipe", Checks.declareAsIs(session), "SYNTAX 0");
    Checks.spell(session, "val b");
    Checks.due("declare of two tokens", Checks.declareAsIs(session), "SYNTAX 2");
    Checks.spell(session, "= 1");
    Checks.due("declare of four tokens", Checks.declareAsIs(session), "OK");
    session.wipe();
    Checks.due("reset behind wipe", session.reset(), 2);
  }
}
