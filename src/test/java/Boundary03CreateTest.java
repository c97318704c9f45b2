import java.util.Arrays;

/** The boundary sentences of promise 3, each with a test of its own. */
public final class Boundary03CreateTest implements Doc {
  private static final int[] KINDS = {KIND_DIR, KIND_FILE, KIND_LINK};

  public static void main(String[] args) {
    for (boolean capMode : Doc.both()) {
      refusesBadArguments(capMode);
      refusesWhatIsNotOpen(capMode);
      refusesWhatIsNoDirectory(capMode);
      refusesWithoutTheRight(capMode);
      refusesLongTargets(capMode);
      refusesOldNames(capMode);
      refusesWhenFull(capMode);
      refusesInOrder(capMode);
      takesTheLowestFreeNode(capMode);
      copiesThePath(capMode);
      givesNoTargetToOthers(capMode);
      changesNothingElse(capMode);
      storesWhatNamesNothing(capMode);
    }
    dependsOnNoMode();
    Check.end("Boundary03CreateTest");
  }

  private static void refusesBadArguments(boolean capMode) {
    Check.sentence(3, "kind is not DIR, FILE or LINK, or name is outside 1..15: E_BADARG.");
    Probe p = new Probe(8, 4).inCapMode(capMode);
    for (int kind : Check.andFarOut(-1, 0, 4, 5, 8, 16)) p.create(0, 1, kind).is(E_BADARG);
    for (int kind : KINDS) {
      for (int name : Check.andFarOut(-1, 0, 16, 17, 32)) p.create(0, name, kind).is(E_BADARG);
    }
    for (int name : Check.andFarOut(-1, 0, 16)) p.create(0, name, 0).is(E_BADARG);
    for (int kind : KINDS) {
      for (int name = 1; name <= 15; name++) new Probe(8, 4).inCapMode(capMode).create(0, name, kind).is(1);
    }
  }

  private static void refusesWhatIsNotOpen(boolean capMode) {
    Check.sentence(3, "fd is not open: E_BADFD.");
    Probe p = new Probe(8, 4).inCapMode(capMode);
    for (int fd : Check.andFarOut(-1, FD_GLOBAL, 1, 2, 3, 4, 5, 16)) p.create(fd, 1, KIND_DIR).is(E_BADFD);
    p.close(0).is(0);
    for (int kind : KINDS) p.create(0, 1, kind).is(E_BADFD);
  }

  private static void refusesWhatIsNoDirectory(boolean capMode) {
    Check.sentence(3, "fd's node is not a DIR: E_NOTDIR.");
    Probe p = new Probe(8, 4).inCapMode(capMode);
    p.create(0, 1, KIND_FILE).is(1);
    p.open(0, 1).is(1);
    for (int kind : KINDS) p.create(1, 2, kind).is(E_NOTDIR);
  }

  private static void refusesWithoutTheRight(boolean capMode) {
    Check.sentence(3, "fd's rights lack R_CREATE: E_NOTCAP.");
    for (int rights = 0; rights <= R_ALL; rights++) {
      Probe p = new Probe(8, 4).inCapMode(capMode);
      p.limit(0, rights).is(rights);
      p.create(0, 1, KIND_FILE).is((rights & R_CREATE) != 0 ? 1 : E_NOTCAP);
    }
  }

  private static void refusesLongTargets(boolean capMode) {
    Check.sentence(3, "kind is LINK and the path buffer has more than 4 components: E_TOOLONG.");
    for (boolean absolute : Doc.both()) {
      for (int length = 0; length <= 8; length++) {
        Probe p = new Probe(8, 4).inCapMode(capMode).path(absolute, new int[length]);
        p.create(0, 1, KIND_LINK).is(length <= 4 ? 1 : E_TOOLONG);
        p.create(0, 2, KIND_DIR).is(length <= 4 ? 2 : 1);
        p.create(0, 3, KIND_FILE).is(length <= 4 ? 3 : 2);
      }
    }
  }

  private static void refusesOldNames(boolean capMode) {
    Check.sentence(3, "The directory already has a child with that name: E_EXIST.");
    for (int old : KINDS) {
      for (int name : new int[] {1, 8, 15}) {
        Probe p = new Probe(32, 4).inCapMode(capMode);
        p.create(0, name, old).is(1);
        for (int kind : KINDS) p.create(0, name, kind).is(E_EXIST);
        p.create(0, 2, KIND_DIR).is(2);
        p.open(0, 2).is(1);
        p.create(1, name, old).is(3);
        for (int kind : KINDS) p.create(1, name, kind).is(E_EXIST);
        p.unlink(0, name).is(0);
        p.create(0, name, old).is(1);
      }
    }
    Probe all = new Probe(32, 4).inCapMode(capMode);
    for (int name = 1; name <= 15; name++) all.create(0, name, KIND_FILE).is(name);
    for (int name = 1; name <= 15; name++) all.create(0, name, KIND_FILE).is(E_EXIST);
  }

  private static void refusesWhenFull(boolean capMode) {
    Check.sentence(3, "There is no FREE node: E_FULL.");
    for (int size = 8; size <= 15; size++) {
      Probe p = new Probe(size, 4).inCapMode(capMode);
      for (int name = 1; name < size; name++) p.create(0, name, KINDS[name % 3]).is(name);
      for (int kind : KINDS) p.create(0, 15, kind).is(E_FULL);
      p.unlink(0, 3).is(0);
      p.create(0, 15, KIND_DIR).is(3);
      p.create(0, 3, KIND_DIR).is(E_FULL);
    }
  }

  /** Slot 1 is the root without R_CREATE, 2 and 3 are a file with and without it, 4 is closed. */
  private static Probe forOrder(boolean capMode, boolean longPath, boolean full) {
    Probe p = new Probe(8, 6);
    p.create(0, 1, KIND_FILE).is(1);
    p.derive(0, R_ALL - R_CREATE).is(1);
    p.open(0, 1).is(2);
    p.derive(2, R_ALL - R_CREATE).is(3);
    for (int name = 2; name <= 7 && full; name++) p.create(0, name, KIND_FILE).is(name);
    return p.inCapMode(capMode).path(true, new int[longPath ? 5 : 4]);
  }

  private static void refusesInOrder(boolean capMode) {
    Check.sentence(0, ORDER);
    for (boolean longPath : Doc.both()) {
      for (boolean full : Doc.both()) {
        for (int fd = 0; fd <= 4; fd++) {
          for (int name : new int[] {0, 1, 15, 16}) {
            for (int kind = 0; kind <= 4; kind++) {
              Probe p = forOrder(capMode, longPath, full);
              p.create(fd, name, kind).is(firstRefusal(fd, name, kind, longPath, full));
            }
          }
        }
      }
    }
  }

  private static int firstRefusal(int fd, int name, int kind, boolean longPath, boolean full) {
    if (kind == 0 || kind == 4 || name == 0 || name == 16) return E_BADARG;
    if (fd == 4) return E_BADFD;
    if (fd == 2 || fd == 3) return E_NOTDIR;
    if (fd == 1) return E_NOTCAP;
    if (kind == KIND_LINK && longPath) return E_TOOLONG;
    if (name == 1) return E_EXIST;
    return full ? E_FULL : 2;
  }

  private static void takesTheLowestFreeNode(boolean capMode) {
    Check.sentence(3, "On success the new node is the lowest FREE index in 1..maxNodes-1, "
        + "and it gets this kind, parent (fd's node) and name.");
    Probe p = new Probe(8, 4).inCapMode(capMode);
    for (int name = 1; name <= 7; name++) p.create(0, name, KIND_DIR).is(name);
    for (int name : new int[] {7, 1, 4}) p.unlink(0, name).is(0);
    p.open(0, 6).is(1);
    p.create(1, 15, KIND_FILE).changes(1, "n1.kind=2", "n1.parent=6", "n1.name=15", "nodes=6");
    p.create(0, 14, KIND_DIR).changes(4, "n4.kind=1", "n4.name=14", "nodes=7");
    p.create(1, 14, KIND_LINK).changes(7, "n7.kind=3", "n7.parent=6", "n7.name=14", "n7.len=1", "n7.0=6", "nodes=8");
  }

  private static void copiesThePath(boolean capMode) {
    Check.sentence(3, "If it is a LINK, its target is a copy of the path buffer (flag and components, 0..4 of them).");
    int[] target = {16, 0, 15, 1};
    for (boolean absolute : Doc.both()) {
      for (int length = 0; length <= 4; length++) {
        int[] components = Arrays.copyOf(target, length);
        Probe p = new Probe(8, 4).inCapMode(capMode).path(absolute, components);
        p.create(0, 9, KIND_LINK).is(1);
        p.targetIs(1, absolute, components);
        p.pathIs(absolute, components);
        p.path(!absolute, 7, 7, 7, 7, 7, 7, 7, 7);
        p.targetIs(1, absolute, components);
      }
    }
  }

  private static void givesNoTargetToOthers(boolean capMode) {
    Check.sentence(3, "A new DIR or FILE has target length 0 and flag false.");
    for (int kind : new int[] {KIND_DIR, KIND_FILE}) {
      Probe p = new Probe(8, 4).inCapMode(capMode).link(0, 1, true, 5, 6, 7, 8);
      p.create(0, 2, kind).is(2);
      p.targetIs(2, false);
      p.unlink(0, 1).is(0);
      p.path(true, 1, 2, 3, 4, 5, 6, 7, 8);
      p.create(0, 3, kind).is(1);
      p.targetIs(1, false);
    }
  }

  private static void changesNothingElse(boolean capMode) {
    Check.sentence(3, "The path buffer, the descriptor table, capability mode and all other nodes are unchanged.");
    Probe p = new Probe(8, 4).link(0, 1, true, 9, 9, 9, 9);
    p.create(0, 2, KIND_DIR).is(2);
    p.link(0, 3, true, 8, 8, 8, 8).inCapMode(capMode);
    p.unlink(0, 2).is(0);
    p.path(false, 1, 2, 3, 4);
    p.create(0, 4, KIND_LINK).changes(2, "n2.kind=3", "n2.name=4", "n2.len=4",
        "n2.0=1", "n2.1=2", "n2.2=3", "n2.3=4", "nodes=4");
    p.path(true, 1, 2, 3, 4, 5, 6, 7, 8);
    p.create(0, 5, KIND_DIR).changes(4, "n4.kind=1", "n4.name=5", "nodes=5");
  }

  private static void storesWhatNamesNothing(boolean capMode) {
    Check.sentence(3, "A link target is stored as given; it need not name anything that exists.");
    int[][] targets = {{}, {0, 0, 0, 0}, {16, 16, 16, 16}, {1}, {15, 14, 13, 12}, {1, 16, 0, 1}};
    for (boolean absolute : Doc.both()) {
      for (int[] target : targets) {
        Probe p = new Probe(8, 4).inCapMode(capMode).path(absolute, target);
        p.create(0, 1, KIND_LINK).is(1);
        p.targetIs(1, absolute, target);
      }
    }
  }

  private static void dependsOnNoMode() {
    Check.sentence(3, "Creation works the same whether capability mode is on or off.");
    Probe off = new Probe(8, 4);
    Probe on = new Probe(8, 4).inCapMode(true);
    for (Probe p : new Probe[] {off, on}) {
      p.path(true, 16, 16);
      for (int name = 1; name <= 7; name++) p.create(0, name, KINDS[name % 3]).is(name);
      p.targetIs(2, true, 16, 16);
      p.create(0, 8, KIND_DIR).is(E_FULL);
      p.create(0, 7, KIND_DIR).is(E_EXIST);
    }
  }
}
