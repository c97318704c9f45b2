/** The boundary sentences of promise 5, each with a test of its own. */
public final class Boundary05DeriveTest implements Doc {
  public static void main(String[] args) {
    for (boolean capMode : Doc.both()) {
      refusesWhatIsNotOpen(capMode);
      refusesWhenFull(capMode);
      refusesInOrder(capMode);
      takesTheLowestClosedSlot(capMode);
      derivesFromAnyKind(capMode);
      changesNothingElse(capMode);
    }
    dependsOnNoMode();
    Check.end("Boundary05DeriveTest");
  }

  private static void refusesWhatIsNotOpen(boolean capMode) {
    Check.sentence(5, "fd is not open: E_BADFD.");
    Probe p = new Probe(8, 5).inCapMode(capMode);
    for (int fd : Check.andFarOut(-1, FD_GLOBAL, 1, 2, 3, 4, 5, 6, 15, 16)) p.derive(fd, R_ALL).is(E_BADFD);
    p.derive(0, R_ALL).is(1);
    p.close(0).is(0);
    p.derive(0, R_ALL).is(E_BADFD);
    p.close(1).is(0);
    p.derive(1, R_ALL).is(E_BADFD);
  }

  private static void refusesWhenFull(boolean capMode) {
    Check.sentence(5, "There is no closed slot: E_FULL.");
    for (int size = 4; size <= 16; size++) {
      Probe p = new Probe(8, size).inCapMode(capMode);
      for (int fd = 1; fd < size; fd++) p.derive(fd - 1, R_ALL).is(fd);
      for (int fd = 0; fd < size; fd++) p.derive(fd, R_ALL).is(E_FULL);
      p.close(size - 1).is(0);
      p.derive(0, R_ALL).is(size - 1);
      p.derive(0, 0).is(E_FULL);
    }
  }

  private static void refusesInOrder(boolean capMode) {
    Check.sentence(0, ORDER);
    Probe p = new Probe(8, 4).inCapMode(capMode);
    for (int fd = 1; fd < 4; fd++) p.derive(0, R_ALL).is(fd);
    for (int fd : Check.andFarOut(-1, FD_GLOBAL, 4, 16)) p.derive(fd, R_ALL).is(E_BADFD);
  }

  private static void takesTheLowestClosedSlot(boolean capMode) {
    Check.sentence(5, "Otherwise the lowest closed slot is opened with fd's node, rights = rights & fd's rights and origin = fd.");
    Probe p = new Probe(8, 6).inCapMode(capMode);
    for (int fd = 1; fd < 6; fd++) p.derive(0, R_ALL).is(fd);
    p.limit(2, 42).is(42);
    for (int fd : new int[] {5, 0, 3}) p.close(fd).is(0);
    p.derive(2, 62).changes(0, "fd0.node=0", "fd0.rights=42", "fd0.origin=2", "fds=4");
    p.derive(2, -1).changes(3, "fd3.node=0", "fd3.rights=42", "fd3.origin=2", "fds=5");
    p.derive(2, 21).changes(5, "fd5.node=0", "fd5.origin=2", "fds=6");
    for (int source = 0; source <= R_ALL; source++) {
      Probe q = new Probe(8, 4).inCapMode(capMode);
      q.limit(0, source).is(source);
      for (int rights : Check.andFarOut(-1, 0, 1, 2, 4, 8, 16, 32, 63, 64, 127, -64)) {
        q.derive(0, rights).is(1);
        q.slotIs(1, 0, rights & source, 0);
        q.close(1).is(0);
      }
    }
  }

  private static void derivesFromAnyKind(boolean capMode) {
    Check.sentence(5, "fd's node may be of any kind, and no particular right is required.");
    Probe p = new Probe(8, 4).inCapMode(capMode);
    p.create(0, 1, KIND_FILE).is(1);
    p.open(0, 1).is(1);
    for (int rights = R_ALL; rights >= 0; rights--) {
      Probe q = new Probe(8, 4).inCapMode(capMode);
      q.limit(0, rights).is(rights);
      q.derive(0, R_ALL).is(1);
    }
    p.limit(1, 0).is(0);
    p.derive(1, R_ALL).is(2);
    p.slotIs(2, 1, 0, 1);
  }

  private static void changesNothingElse(boolean capMode) {
    Check.sentence(5, "Slot fd and every other slot, the nodes, the path buffer and the mode are unchanged.");
    Probe p = new Probe(8, 4).link(0, 1, true, 3).inCapMode(capMode).path(true, 1, 2, 3, 4, 5, 6, 7, 8);
    p.derive(0, 1).changes(1, "fd1.node=0", "fd1.rights=1", "fd1.origin=0", "fds=2");
    p.derive(1, R_ALL).changes(2, "fd2.node=0", "fd2.rights=1", "fd2.origin=1", "fds=3");
  }

  private static void dependsOnNoMode() {
    Check.sentence(5, "derive works the same whether capability mode is on or off.");
    Probe p = new Probe(8, 4).path(true, UP);
    p.derive(0, 9).is(1);
    p.enterCapMode().is(0);
    p.derive(0, 9).is(2);
    p.slotIs(1, 0, 9, 0);
    p.slotIs(2, 0, 9, 0);
    p.derive(FD_GLOBAL, 9).is(E_BADFD);
  }
}
