/** The boundary sentences of promise 4 about the start, the slot and what follows from them, each with a test of its own. */
public final class Boundary04OpenAtTest implements Doc {
  public static void main(String[] args) {
    refusesGlobalInCapMode();
    startsGlobalAtTheRoot();
    for (boolean capMode : Doc.both()) {
      refusesWhatIsNotOpen(capMode);
      refusesWhatIsNoDirectory(capMode);
      refusesWithoutTheRight(capMode);
      looksAtTheStartInOrder(capMode);
      startsAtTheDescriptor(capMode);
      refusesWhenFull(capMode);
      looksForASlotLast(capMode);
      takesTheLowestClosedSlot(capMode);
      neverAddsRights(capMode);
      changesNothingElse(capMode);
    }
    Check.end("Boundary04OpenAtTest");
  }

  private static void refusesGlobalInCapMode() {
    Check.sentence(4, "If fd == FD_GLOBAL: if capability mode is on, answer E_CAPMODE.");
    Tree tree = new Tree().inCapMode(true);
    for (int i = 0; i < 2; i++) {
      tree.fails(E_CAPMODE, FD_GLOBAL);
      tree.failsAbsolute(E_CAPMODE, FD_GLOBAL);
      tree.fails(E_CAPMODE, FD_GLOBAL, 1);
      tree.fails(E_CAPMODE, FD_GLOBAL, 14);
      tree.fails(E_CAPMODE, FD_GLOBAL, UP);
      tree.fails(E_CAPMODE, FD_GLOBAL, 4, DOT);
      for (int fd = 3; fd < 6 && i == 0; fd++) tree.p.derive(0, R_ALL).is(fd);
    }
    for (int fd = 0; fd < 6; fd++) tree.p.close(fd).is(0);
    tree.fails(E_CAPMODE, FD_GLOBAL);
  }

  private static void startsGlobalAtTheRoot() {
    Check.sentence(4, "Otherwise the start S is node 0, src = R_ALL and origin = -1.");
    Probe p = new Tree().p;
    p.limit(0, 0).is(0);
    p.open(FD_GLOBAL).is(3);
    p.slotIs(3, 0, R_ALL, -1);
    for (int fd = 0; fd < 4; fd++) p.close(fd).is(0);
    p.open(FD_GLOBAL, 1, 2).is(0);
    p.slotIs(0, 2, R_ALL, -1);
    for (int fd : new int[] {-99, -101, 100}) p.open(fd).is(E_BADFD);
  }

  private static void refusesWhatIsNotOpen(boolean capMode) {
    Check.sentence(4, "fd is not open: E_BADFD.");
    Tree tree = new Tree().inCapMode(capMode);
    for (int fd : Check.andFarOut(-1, 3, 4, 5, 6, 7, 15, 16)) {
      tree.fails(E_BADFD, fd);
      tree.failsAbsolute(E_BADFD, fd, 14);
    }
    for (int fd = 0; fd < 3; fd++) {
      tree.p.close(fd).is(0);
      tree.fails(E_BADFD, fd);
    }
  }

  private static void refusesWhatIsNoDirectory(boolean capMode) {
    Check.sentence(4, "fd's node is not a DIR: E_NOTDIR.");
    Tree tree = new Tree();
    tree.p.open(0, 4).is(3);
    tree.inCapMode(capMode);
    tree.fails(E_NOTDIR, 3);
    tree.fails(E_NOTDIR, 3, DOT);
    tree.fails(E_NOTDIR, 3, UP);
    tree.fails(E_NOTDIR, 3, 14);
    tree.failsAbsolute(E_NOTDIR, 3);
  }

  private static void refusesWithoutTheRight(boolean capMode) {
    Check.sentence(4, "fd's rights lack R_LOOKUP: E_NOTCAP.");
    for (int rights = 0; rights <= R_ALL; rights++) {
      Probe p = new Tree().inCapMode(capMode).p;
      p.limit(1, rights).is(rights);
      p.open(1).is((rights & R_LOOKUP) != 0 ? 3 : E_NOTCAP);
    }
  }

  /** Slot 3 is a file without rights, slot 4 the root without R_LOOKUP, slot 5 is closed. */
  private static void looksAtTheStartInOrder(boolean capMode) {
    Check.sentence(4, "For any other fd, in this order: fd is not open: E_BADFD. fd's node is not a DIR: E_NOTDIR. "
        + "fd's rights lack R_LOOKUP: E_NOTCAP.");
    Tree tree = new Tree();
    tree.p.path(false, 4);
    tree.p.openAt(0, 0).is(3);
    tree.p.derive(0, R_ALL - R_LOOKUP).is(4);
    tree.inCapMode(capMode);
    int[][] paths = {{}, {14}, {UP}, {4, DOT}};
    for (int[] path : paths) {
      tree.fails(E_BADFD, 5, path);
      tree.fails(E_NOTDIR, 3, path);
      tree.fails(E_NOTCAP, 4, path);
      tree.failsAbsolute(E_BADFD, 5, path);
      tree.failsAbsolute(E_NOTDIR, 3, path);
      tree.failsAbsolute(E_NOTCAP, 4, path);
    }
  }

  private static void startsAtTheDescriptor(boolean capMode) {
    Check.sentence(4, "Then S = fd's node, src = fd's rights, origin = fd.");
    Probe p = new Tree().inCapMode(capMode).p;
    p.limit(2, R_LOOKUP + 1).is(5);
    p.open(2).is(3);
    p.slotIs(3, 2, 5, 2);
    p.open(3, 3).is(4);
    p.slotIs(4, 3, 5, 3);
    p.open(0, 1, 5).is(5);
    p.slotIs(5, 5, R_ALL, 0);
  }

  private static Tree full(boolean capMode) {
    Tree tree = new Tree().link(0, 11, false, 11).inCapMode(capMode);
    tree.p.open(0, 4).is(3);
    tree.p.derive(0, 0).is(4);
    tree.p.derive(0, R_ALL).is(5);
    return tree;
  }

  private static void refusesWhenFull(boolean capMode) {
    Check.sentence(4, "There is no closed slot: E_FULL.");
    for (int size = 4; size <= 16; size++) {
      Probe p = new Probe(8, size).inCapMode(capMode);
      for (int fd = 1; fd < size; fd++) p.open(0).is(fd);
      p.open(0).is(E_FULL);
      if (!capMode) p.open(FD_GLOBAL).is(E_FULL);
      p.close(size - 1).is(0);
      p.open(0).is(size - 1);
    }
  }

  private static void looksForASlotLast(boolean capMode) {
    Check.sentence(4, "This is only considered after resolution succeeds.");
    Tree tree = full(capMode);
    tree.fails(E_NOENT, 0, 14);
    tree.fails(E_NOENT, 0, 1, 14, 1);
    tree.fails(E_NOTDIR, 0, 4, DOT);
    tree.fails(E_LOOP, 0, 11);
    tree.fails(E_BADFD, 6);
    tree.fails(E_NOTDIR, 3);
    tree.fails(E_NOTCAP, 4);
    tree.fails(capMode ? E_ESCAPE : E_FULL, 1, UP);
    tree.failsAbsolute(capMode ? E_ESCAPE : E_FULL, 1);
    tree.fails(capMode ? E_CAPMODE : E_FULL, FD_GLOBAL);
    tree.fails(E_FULL, 0);
    tree.fails(E_FULL, 0, 1, 2, 3);
  }

  private static void takesTheLowestClosedSlot(boolean capMode) {
    Check.sentence(4, "The lowest closed slot is opened with node = result, rights = rights & src and the origin from step 1.");
    Probe p = full(capMode).p;
    p.close(5).is(0);
    p.close(3).is(0);
    p.close(0).is(0);
    p.path(false, 2);
    p.openAt(1, 21).changes(0, "fd0.node=2", "fd0.rights=21", "fd0.origin=1", "fds=4");
    p.openAt(1, -1).changes(3, "fd3.node=2", "fd3.rights=63", "fd3.origin=1", "fds=5");
    p.openAt(1, 0).changes(5, "fd5.node=2", "fd5.origin=1", "fds=6");
    p.openAt(1, 63).is(E_FULL);
  }

  private static void neverAddsRights(boolean capMode) {
    Check.sentence(4, "Consequences: the new slot's rights never contain a bit that src lacks, whatever int 'rights' is.");
    for (int source = 0; source <= R_ALL; source++) {
      if ((source & R_LOOKUP) == 0) continue;
      Probe p = new Tree().inCapMode(capMode).p;
      p.limit(1, source).is(source);
      p.path(false, 2);
      for (int rights : Check.andFarOut(-1, 0, 1, 2, 4, 8, 16, 32, 63, 64, 127, -64)) {
        p.openAt(1, rights).is(3);
        p.slotIs(3, 2, rights & source, 1);
        p.close(3).is(0);
      }
    }
  }

  private static void changesNothingElse(boolean capMode) {
    Check.sentence(4, "openAt never changes the path buffer, any node, capability mode, or any slot other than the one it opens; "
        + "on failure nothing changes at all.");
    Tree tree = new Tree().link(1, 6, false, 2, UP, 2, 3).inCapMode(capMode);
    tree.p.path(false, DOT, DOT, 2, UP, 5, UP, DOT, 6);
    tree.p.openAt(1, R_ALL).changes(3, "fd3.node=3", "fd3.rights=63", "fd3.origin=1", "fds=4");
    tree.p.pathPush(1).is(E_TOOLONG);
    tree.p.path(false, 2, UP, 6, 2);
    tree.p.openAt(1, R_ALL).is(E_NOTDIR);
    tree.p.pathIs(false, 2, UP, 6, 2);
    tree.p.path(true);
    if (capMode) tree.p.openAt(1, R_ALL).is(E_ESCAPE);
    else tree.p.openAt(1, R_ALL).changes(4, "fd4.node=0", "fd4.rights=63", "fd4.origin=1", "fds=5");
  }
}
