/** Promises 1, 2, 3: a new object, token, wipe. */
public final class TokensTest {
  public static void main(String[] args) {
    newObject();
    everyKindIsTaken();
    wrongKinds();
    valuesThatAreLookedAt();
    valuesThatAreNot();
    atMostTwentyFour();
    wipeRemovesAll();
    tokensAreKeptInOrder();
    Checks.finish();
  }

  private static void newObject() {
    OpenTypeSession session = new OpenTypeSession();
    Checks.due("wipe of a new object", session.wipe(), 0);
    Checks.due("place of a new object", session.place(), -1);
    Checks.due("reset of a new object", session.reset(), 0);
    for (int name = -1; name <= 12; name++) {
      Checks.due("size of " + name + " in a new object", session.size(name), 0);
      Checks.due("node of " + name + " in a new object", session.node(name, 0), -1);
    }
    Checks.due("declare without tokens", session.declare(), OpenTypeSession.SYNTAX);
    Checks.due("its place", session.place(), 0);
    Checks.due("fits without tokens", session.fits(0), OpenTypeSession.SYNTAX);
    Checks.due("its place", session.place(), 0);
    OpenTypeSession other = new OpenTypeSession();
    Checks.dueDeclare(session, "val a = 1", "OK");
    Checks.due("another object knows nothing of it", other.size(0), 0);
  }

  private static void everyKindIsTaken() {
    OpenTypeSession session = new OpenTypeSession();
    for (int kind = 0; kind <= 37; kind++) {
      Checks.due("token of kind " + kind, session.token(kind, 0), true);
      Checks.due("wipe behind it", session.wipe(), 1);
    }
  }

  private static void wrongKinds() {
    OpenTypeSession session = new OpenTypeSession();
    for (int kind : new int[] {-1, 38, 39, 100, Integer.MIN_VALUE, Integer.MAX_VALUE}) {
      Checks.due("token of kind " + kind, session.token(kind, 0), false);
    }
    Checks.due("wipe behind wrong kinds", session.wipe(), 0);
  }

  private static void valuesThatAreLookedAt() {
    OpenTypeSession session = new OpenTypeSession();
    for (int value : new int[] {-1, 12, Integer.MIN_VALUE, Integer.MAX_VALUE}) {
      Checks.due("NAME " + value, session.token(3, value), false);
    }
    for (int value : new int[] {-1, 4, 11, Integer.MIN_VALUE, Integer.MAX_VALUE}) {
      Checks.due("TVAR " + value, session.token(35, value), false);
    }
    Checks.due("wipe behind wrong values", session.wipe(), 0);
    for (int value = 0; value < 12; value++) {
      Checks.due("NAME " + value, session.token(3, value), true);
    }
    for (int value = 0; value < 4; value++) {
      Checks.due("TVAR " + value, session.token(35, value), true);
    }
    for (int value : new int[] {-1, 0, Integer.MIN_VALUE, Integer.MAX_VALUE}) {
      Checks.due("INT " + value, session.token(0, value), true);
    }
    Checks.due("wipe behind right values", session.wipe(), 20);
  }

  private static void valuesThatAreNot() {
    OpenTypeSession session = new OpenTypeSession();
    Checks.due("val with a value", session.token(7, -9), true);
    Checks.due("NAME", session.token(3, 2), true);
    Checks.due("= with a value", session.token(9, Integer.MAX_VALUE), true);
    Checks.due("true with a value", session.token(1, Integer.MIN_VALUE), true);
    Checks.due("declare of them", session.declare(), OpenTypeSession.OK);
    Checks.dueTypeOf(session, "c", "bool");
  }

  private static void atMostTwentyFour() {
    OpenTypeSession session = new OpenTypeSession();
    for (int i = 0; i < 24; i++) {
      Checks.due("token " + i, session.token(0, i), true);
    }
    Checks.due("token 24", session.token(0, 24), false);
    Checks.due("token 24 again", session.token(7, 0), false);
    Checks.due("wipe", session.wipe(), 24);
    Checks.due("token behind wipe", session.token(0, 0), true);
  }

  private static void wipeRemovesAll() {
    OpenTypeSession session = new OpenTypeSession();
    Checks.spell(session, "val a = 1");
    Checks.due("wipe", session.wipe(), 4);
    Checks.due("wipe again", session.wipe(), 0);
    Checks.due("declare behind wipe", session.declare(), OpenTypeSession.SYNTAX);
    Checks.due("its place", session.place(), 0);
    Checks.dueDeclare(session, "val a = 1", "OK");
    session.wipe();
    Checks.dueTypeOf(session, "a", "int");
    Checks.dueDeclare(session, "val b = true + 1", "CLASH 4");
    Checks.due("wipe", session.wipe(), 6);
    Checks.due("place behind wipe", session.place(), 4);
  }

  private static void tokensAreKeptInOrder() {
    OpenTypeSession session = new OpenTypeSession();
    Checks.spell(session, "val a");
    Checks.due("a refused token", session.token(3, 12), false);
    Checks.due("another one", session.token(38, 0), false);
    Checks.spell(session, "= nil");
    Checks.due("declare", session.declare(), OpenTypeSession.OK);
    Checks.dueTypeOf(session, "a", "list A");
  }
}
