/** The boundary sentences of promise 8, each with a test of its own. */
public final class Boundary08CapModeTest implements Doc {
  public static void main(String[] args) {
    canNeverBeTurnedOff();
    changesNothingAgain();
    changesNothingElse();
    affectsLaterLookups();
    Check.end("Boundary08CapModeTest");
  }

  private static void canNeverBeTurnedOff() {
    Check.sentence(8, "It can never be turned off.");
    Probe p = new Probe(8, 4);
    p.create(0, 1, KIND_DIR).is(1);
    p.enterCapMode().is(0);
    p.enterCapMode().is(0);
    p.status(ST_CAPMODE, 1);
    everyCall(p);
    p.status(ST_CAPMODE, 1);
    p.open(FD_GLOBAL).is(E_CAPMODE);
    for (int fd = 0; fd < 4; fd++) p.box.close(fd);
    p.status(ST_CAPMODE, 1);
    p.open(FD_GLOBAL).is(E_CAPMODE);
  }

  /** Each method once with success and once refused. */
  private static void everyCall(Probe p) {
    p.pathReset(true).is(0);
    p.openAt(0, R_ALL).is(E_ESCAPE);
    p.pathReset(false).is(0);
    p.pathPush(1).is(1);
    p.pathPush(17).is(E_BADARG);
    p.openAt(0, R_ALL).is(1);
    p.openAt(FD_GLOBAL, R_ALL).is(E_CAPMODE);
    p.derive(0, R_ALL).is(2);
    p.derive(9, R_ALL).is(E_BADFD);
    p.limit(2, 1).is(1);
    p.limit(9, 1).is(E_BADFD);
    p.create(0, 5, KIND_FILE).is(2);
    p.create(0, 5, KIND_FILE).is(E_EXIST);
    p.rename(0, 5, 0, 6).is(0);
    p.rename(0, 5, 0, 6).is(E_NOENT);
    p.unlink(0, 6).is(0);
    p.unlink(0, 6).is(E_NOENT);
    p.close(2).is(0);
    p.close(2).is(E_BADFD);
  }

  private static void changesNothingAgain() {
    Check.sentence(8, "Calling it again changes nothing.");
    Probe p = new Probe(8, 4).link(0, 1, true, 2).path(true, 3);
    p.enterCapMode().is(0);
    for (int i = 0; i < 3; i++) p.enterCapMode().changes(0);
  }

  private static final String ONLY_LOOKUPS = "It does not change any node, descriptor or the path buffer; "
      + "it only affects how later openAt calls behave and makes status(ST_CAPMODE) answer 1.";

  private static void changesNothingElse() {
    Check.sentence(8, ONLY_LOOKUPS);
    new Probe(8, 4).enterCapMode().changes(0, "cap=1");
    Probe p = new Probe(8, 4).link(0, 1, true, 2).path(true);
    p.openAt(FD_GLOBAL, 5).is(1);
    p.path(true, 1, 2, 3, 4, 5, 6, 7, 8);
    p.enterCapMode().changes(0, "cap=1");
    Probe closed = new Probe(8, 4);
    closed.close(0).is(0);
    closed.enterCapMode().changes(0, "cap=1");
  }

  private static void affectsLaterLookups() {
    Check.sentence(8, ONLY_LOOKUPS);
    Tree tree = new Tree();
    tree.p.open(1, UP, UP, 4).is(3);
    tree.p.close(3).is(0);
    tree.p.path(true, 4);
    tree.p.openAt(FD_GLOBAL, R_ALL).is(3);
    tree.p.enterCapMode().is(0);
    // What was opened from outside before stays open and is of use.
    tree.p.slotIs(3, 4, R_ALL, -1);
    tree.p.derive(3, 1).is(4);
    tree.p.openAt(FD_GLOBAL, R_ALL).is(E_CAPMODE);
    tree.p.openAt(0, R_ALL).is(E_ESCAPE);
    tree.p.open(1, UP, UP, 4).is(E_ESCAPE);
    tree.p.open(0, 4).is(5);
  }
}
