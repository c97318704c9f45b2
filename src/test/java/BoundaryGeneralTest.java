/** The boundary sentences of the general part about nodes, descriptors and the path buffer, each with a test of its own. */
public final class BoundaryGeneralTest implements Doc {
  public static void main(String[] args) {
    nodesHaveIndices();
    rootIsNeverRemoved();
    nodesHaveParentsAndNames();
    childrenAreWhatTheyAre();
    namesAreNotShared();
    linksHoldTargets();
    othersHoldNone();
    freeNodesAreEmpty();
    newNodesTakeTheLowestIndex();
    componentsMeanWhatTheyMean();
    slotsHaveIndices();
    openSlotsNameUsedNodes();
    closedSlotsAreEmpty();
    newDescriptorsTakeTheLowestSlot();
    pathHoldsUpToEight();
    onlyTwoChangeThePath();
    Check.end("BoundaryGeneralTest");
  }

  private static void nodesHaveIndices() {
    Check.sentence(0, "Nodes have indices 0..maxNodes-1.");
    for (int size = 8; size <= 15; size++) {
      Probe p = new Probe(size, 4);
      for (int node = 1; node < size; node++) p.create(0, node, KIND_FILE).is(node);
      p.create(0, 15, KIND_FILE).is(E_FULL);
      p.nodeInfo(size - 1, NI_NAME, size - 1);
      p.nodeInfo(size, NI_NAME, E_BADARG);
      p.nodeInfo(-1, NI_NAME, E_BADARG);
    }
  }

  private static void rootIsNeverRemoved() {
    Check.sentence(0, "Node 0 is the root directory (kind KIND_DIR, parent 0, name 0) and is never removed.");
    Probe p = new Probe(8, 4);
    p.create(0, 1, KIND_DIR).is(1);
    p.open(0, 1).is(1);
    p.unlink(0, 0).is(E_BADARG);
    p.unlink(0, UP).is(E_BADARG);
    p.unlink(1, UP).is(E_BADARG);
    p.rename(0, 0, 1, 2).is(E_BADARG);
    p.rename(1, UP, 1, 2).is(E_BADARG);
    p.close(0).is(0);
    for (int name = 1; name <= 15; name++) p.unlink(1, name).is(E_NOENT);
    p.nodeIs(0, KIND_DIR, 0, 0);
    p.targetIs(0, false);
    // Nothing holds the root open any more, and still it can be walked to.
    p.open(1, UP).is(0);
    p.slotIs(0, 0, R_ALL, 1);
  }

  private static void nodesHaveParentsAndNames() {
    Check.sentence(0, "Every other node is FREE, or is a DIR, FILE or LINK with a parent (always a DIR) and a name in 1..15.");
    Probe p = new Probe(8, 4);
    p.create(0, 1, KIND_FILE).is(1);
    p.open(0, 1).is(1);
    for (int kind = 0; kind <= 4; kind++) {
      for (int name : new int[] {0, 16}) p.create(0, name, kind).is(E_BADARG);
    }
    for (int kind = 1; kind <= 3; kind++) p.create(1, 2, kind).is(E_NOTDIR);
    p.create(0, 2, KIND_FREE).is(E_BADARG);
    p.create(0, 15, KIND_LINK).is(2);
    p.rename(0, 15, 1, 3).is(E_NOTDIR);
    p.rename(0, 15, 0, 0).is(E_BADARG);
    p.rename(0, 15, 0, 16).is(E_BADARG);
    p.nodeIs(2, KIND_LINK, 0, 15);
  }

  private static void childrenAreWhatTheyAre() {
    Check.sentence(0, "The children of directory D are the non-FREE nodes n != 0 with parent D.");
    Probe p = new Probe(8, 4);
    for (int name = 1; name <= 15; name++) {
      p.open(0, name).is(E_NOENT);
      p.rename(0, name, 0, name).is(E_NOENT);
      p.unlink(0, name).is(E_NOENT);
    }
    p.create(0, 1, KIND_DIR).is(1);
    p.open(0, 1).is(1);
    p.create(1, 2, KIND_DIR).is(2);
    p.open(0, 2).is(E_NOENT);
    p.open(1, 1).is(E_NOENT);
    p.create(0, 2, KIND_FILE).is(3);
    p.unlink(1, 2).is(0);
    p.close(1).is(0);
    p.unlink(0, 1).is(0);
    p.open(0, 1).is(E_NOENT);
    for (int directory = 1; directory <= 7; directory++) {
      for (int child = 1; child <= 7; child++) {
        if (child != directory) anyNodeCanBeAChild(directory, child);
      }
    }
  }

  private static void anyNodeCanBeAChild(int directory, int child) {
    Probe p = new Probe(8, 4);
    for (int node = 1; node <= 7; node++) p.create(0, node, KIND_DIR).is(node);
    p.open(0, directory).is(1);
    p.rename(0, child, 1, 9).is(0);
    p.open(0, child).is(E_NOENT);
    p.open(0, 9).is(E_NOENT);
    p.create(1, 9, KIND_FILE).is(E_EXIST);
    p.open(1, 9).is(2);
    p.slotIs(2, child, R_ALL, 1);
    p.close(2).is(0);
    p.close(1).is(0);
    p.unlink(0, directory).is(E_NOTEMPTY);
  }

  private static void namesAreNotShared() {
    Check.sentence(0, "No two children of one directory share a name.");
    Probe p = new Probe(32, 4);
    for (int name = 1; name <= 15; name++) p.create(0, name, name == 1 ? KIND_DIR : KIND_FILE).is(name);
    p.open(0, 1).is(1);
    for (int name = 1; name <= 15; name++) {
      p.create(0, name, KIND_LINK).is(E_EXIST);
      p.create(1, name, KIND_FILE).is(15 + name);
      p.rename(1, name, 0, name).is(E_EXIST);
      p.rename(0, name, 0, 16 - name).is(E_EXIST);
    }
    for (int name = 1; name <= 15; name++) p.create(1, name, KIND_FILE).is(E_EXIST);
  }

  private static void linksHoldTargets() {
    Check.sentence(0, "A LINK holds a target: an absolute flag and 0..4 components.");
    for (boolean absolute : Doc.both()) {
      Probe p = new Probe(8, 4).link(0, 1, absolute).link(0, 2, absolute, 0).link(0, 3, absolute, 1, 16, 15, 0);
      p.targetIs(1, absolute);
      p.targetIs(2, absolute, 0);
      p.targetIs(3, absolute, 1, 16, 15, 0);
      p.path(absolute, 1, 2, 3, 4, 5);
      p.create(0, 4, KIND_LINK).is(E_TOOLONG);
    }
  }

  private static void othersHoldNone() {
    Check.sentence(0, "A FREE node, a DIR and a FILE have a target of length 0 and flag false.");
    Probe p = new Probe(8, 4).link(0, 1, true, 1, 2, 3, 4).link(0, 2, true, 1, 2, 3, 4).link(0, 3, true, 1, 2, 3, 4);
    for (int name = 1; name <= 3; name++) p.unlink(0, name).is(0);
    p.create(0, 1, KIND_DIR).is(1);
    p.create(0, 2, KIND_FILE).is(2);
    for (int node = 0; node < 8; node++) p.targetIs(node, false);
  }

  private static void freeNodesAreEmpty() {
    Check.sentence(0, "A FREE node has kind 0, parent 0 and name 0.");
    Probe p = new Probe(8, 4);
    p.create(0, 1, KIND_DIR).is(1);
    p.open(0, 1).is(1);
    for (int kind = 1; kind <= 3; kind++) {
      p.create(1, 15, kind).is(2);
      p.nodeIs(2, kind, 1, 15);
      p.unlink(1, 15).is(0);
      p.nodeIs(2, KIND_FREE, 0, 0);
    }
    for (int node = 3; node < 8; node++) p.nodeIs(node, KIND_FREE, 0, 0);
  }

  private static void newNodesTakeTheLowestIndex() {
    Check.sentence(0, "A new node takes the lowest FREE index in 1..maxNodes-1.");
    Probe p = new Probe(10, 4);
    for (int name = 1; name <= 9; name++) p.create(0, name, KIND_FILE).is(name);
    for (int name : new int[] {9, 5, 1, 7}) p.unlink(0, name).is(0);
    for (int node : new int[] {1, 5, 7, 9}) p.create(0, 16 - node, KIND_LINK).is(node);
    p.create(0, 1, KIND_FILE).is(E_FULL);
    // An index that has been freed comes before those that never were in use.
    Probe q = new Probe(10, 4);
    for (int name = 1; name <= 3; name++) q.create(0, name, KIND_FILE).is(name);
    q.unlink(0, 2).is(0);
    q.create(0, 9, KIND_FILE).is(2);
    q.create(0, 2, KIND_FILE).is(4);
  }

  private static void componentsMeanWhatTheyMean() {
    Check.sentence(0, "0 means '.', 1..15 are names, 16 means '..'.");
    for (int name = 1; name <= 15; name++) {
      Probe p = new Probe(8, 6);
      p.create(0, name, KIND_DIR).is(1);
      p.open(0, name).is(1);
      p.slotIs(1, 1, R_ALL, 0);
      p.open(1, DOT).is(2);
      p.slotIs(2, 1, R_ALL, 1);
      p.open(1, UP).is(3);
      p.slotIs(3, 0, R_ALL, 1);
      p.open(1, name).is(E_NOENT);
    }
    for (int component : new int[] {-1, 17}) new Probe(8, 4).pathPush(component).is(E_BADARG);
  }

  private static void slotsHaveIndices() {
    Check.sentence(0, "Slots 0..maxFds-1.");
    for (int size = 4; size <= 16; size++) {
      Probe p = new Probe(8, size);
      for (int fd = 1; fd < size; fd++) p.derive(0, R_ALL).is(fd);
      p.derive(0, R_ALL).is(E_FULL);
      p.slotIs(size - 1, 0, R_ALL, 0);
      p.fdInfo(size, FI_RIGHTS, E_BADFD);
      p.fdInfo(-1, FI_RIGHTS, E_BADFD);
    }
  }

  private static void openSlotsNameUsedNodes() {
    Check.sentence(0, "An open slot has a node (never FREE while the slot is open), rights (a subset of R_ALL) "
        + "and an origin (the slot it came from, or -1).");
    for (int kind : new int[] {KIND_DIR, KIND_FILE}) {
      Probe p = new Probe(8, 5);
      p.create(0, 15, kind).is(1);
      p.path(false, 15);
      p.openAt(0, -1).is(1);
      p.openAt(FD_GLOBAL, Integer.MAX_VALUE).is(2);
      p.derive(2, Integer.MIN_VALUE).is(3);
      p.slotIs(0, 0, R_ALL, -1);
      p.slotIs(1, 1, R_ALL, 0);
      p.slotIs(2, 1, R_ALL, -1);
      p.slotIs(3, 1, 0, 2);
      for (int fd = 1; fd <= 3; fd++) {
        p.unlink(0, 15).is(E_BUSY);
        p.close(fd).is(0);
      }
      p.unlink(0, 15).is(0);
    }
  }

  private static void closedSlotsAreEmpty() {
    Check.sentence(0, "A closed slot has node -1, rights 0 and origin -1.");
    Probe p = new Probe(8, 6);
    p.create(0, 1, KIND_FILE).is(1);
    p.open(0, 1).is(1);
    p.derive(1, R_ALL).is(2);
    for (int fd = 0; fd <= 2; fd++) p.close(fd).is(0);
    for (int fd = 0; fd < 6; fd++) p.slotIs(fd, -1, 0, -1);
  }

  private static void newDescriptorsTakeTheLowestSlot() {
    Check.sentence(0, "A new descriptor takes the lowest closed slot.");
    Probe p = new Probe(8, 6);
    for (int fd = 1; fd < 6; fd++) p.derive(0, R_ALL).is(fd);
    for (int fd : new int[] {5, 2, 4, 0}) p.close(fd).is(0);
    p.open(1).is(0);
    p.derive(1, R_ALL).is(2);
    p.open(FD_GLOBAL).is(4);
    p.derive(1, R_ALL).is(5);
    p.close(1).is(0);
    p.derive(5, R_ALL).is(1);
  }

  private static void pathHoldsUpToEight() {
    Check.sentence(0, "An absolute flag and 0..8 components.");
    for (boolean absolute : Doc.both()) {
      Probe p = new Probe(8, 4).path(absolute);
      p.pathIs(absolute);
      p.path(absolute, 16, 15, 14, 13, 3, 2, 1, 0);
      p.pathIs(absolute, 16, 15, 14, 13, 3, 2, 1, 0);
      p.pathPush(0).is(E_TOOLONG);
    }
  }

  private static void onlyTwoChangeThePath() {
    Check.sentence(0, "Only pathReset and pathPush change it.");
    int[][] paths = {{}, {1}, {1, 0, 0, 0}, {1, 0, 0, 0, 0, 0, 0, 0}};
    for (int[] path : paths) {
      for (boolean absolute : Doc.both()) {
        Probe p = new Probe(8, 4);
        p.create(0, 1, KIND_DIR).is(1);
        p.path(absolute, path);
        everyOtherCall(p.box);
        p.pathIs(absolute, path);
        p.enterCapMode().is(0);
        everyOtherCall(p.box);
        p.pathIs(absolute, path);
      }
    }
  }

  private static void everyOtherCall(CapabilitySandbox box) {
    for (int kind = 0; kind <= 3; kind++) box.create(0, 5 + kind, kind);
    box.openAt(0, R_ALL);
    box.openAt(FD_GLOBAL, R_ALL);
    box.openAt(99, R_ALL);
    box.derive(0, R_ALL);
    box.limit(1, 3);
    box.rename(0, 6, 0, 9);
    box.rename(0, 14, 0, 9);
    box.unlink(0, 9);
    box.unlink(0, 8);
    box.unlink(0, 14);
    for (int what = -1; what <= 16; what++) box.status(what);
    box.close(3);
    box.close(2);
    box.close(1);
    box.close(1);
  }
}
