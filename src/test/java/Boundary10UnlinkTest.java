/** The boundary sentences of promise 10, each with a test of its own. */
public final class Boundary10UnlinkTest implements Doc {
  public static void main(String[] args) {
    for (boolean capMode : Doc.both()) {
      refusesBadNames(capMode);
      refusesWhatIsNotOpen(capMode);
      refusesWhatIsNoDirectory(capMode);
      refusesWithoutTheRight(capMode);
      refusesMissingChildren(capMode);
      refusesWhatIsHeldOpen(capMode);
      refusesWhatHasChildren(capMode);
      refusesInOrder(capMode);
      frees(capMode);
      removesTheLinkItself(capMode);
      neverRemovesTheRoot(capMode);
      changesNothingElse(capMode);
    }
    dependsOnNoMode();
    Check.end("Boundary10UnlinkTest");
  }

  /**
   * Nodes 1 = DIR /1, 2 = FILE /2, 3 = LINK /3 to /1/1, 4 = FILE /1/1, 5 = DIR /5.
   * Slots 1 = the root without R_DELETE, 2 and 3 = node 2 with all rights and with none, 4 = node 1.
   */
  private static Probe tree(boolean capMode) {
    Probe p = new Probe(8, 6);
    p.create(0, 1, KIND_DIR).is(1);
    p.create(0, 2, KIND_FILE).is(2);
    p.link(0, 3, true, 1, 1);
    p.derive(0, R_ALL - R_DELETE).is(1);
    p.open(0, 2).is(2);
    p.derive(2, 0).is(3);
    p.open(0, 1).is(4);
    p.create(4, 1, KIND_FILE).is(4);
    p.create(0, 5, KIND_DIR).is(5);
    return p.inCapMode(capMode);
  }

  private static void refusesBadNames(boolean capMode) {
    Check.sentence(10, "name is outside 1..15: E_BADARG.");
    Probe p = tree(capMode);
    for (int name : Check.andFarOut(-1, 0, 16, 17, 32)) p.unlink(0, name).is(E_BADARG);
    for (int name : new int[] {1, 15}) {
      Probe q = new Probe(8, 4).inCapMode(capMode);
      q.create(0, name, KIND_FILE).is(1);
      q.unlink(0, name).is(0);
    }
  }

  private static void refusesWhatIsNotOpen(boolean capMode) {
    Check.sentence(10, "fd is not open: E_BADFD.");
    Probe p = tree(capMode);
    for (int fd : Check.andFarOut(-1, FD_GLOBAL, 5, 6, 7, 15, 16)) p.unlink(fd, 5).is(E_BADFD);
    p.close(0).is(0);
    p.unlink(0, 5).is(E_BADFD);
  }

  private static void refusesWhatIsNoDirectory(boolean capMode) {
    Check.sentence(10, "fd's node is not a DIR: E_NOTDIR.");
    Probe p = tree(capMode);
    for (int name = 1; name <= 15; name++) p.unlink(2, name).is(E_NOTDIR);
  }

  private static void refusesWithoutTheRight(boolean capMode) {
    Check.sentence(10, "fd's rights lack R_DELETE: E_NOTCAP.");
    for (int rights = 0; rights <= R_ALL; rights++) {
      Probe p = tree(capMode);
      p.limit(0, rights).is(rights);
      p.unlink(0, 5).is((rights & R_DELETE) != 0 ? 0 : E_NOTCAP);
    }
  }

  private static void refusesMissingChildren(boolean capMode) {
    Check.sentence(10, "There is no child with that name: E_NOENT.");
    Probe p = tree(capMode);
    for (int name : new int[] {4, 6, 14, 15}) p.unlink(0, name).is(E_NOENT);
    p.unlink(4, 2).is(E_NOENT);
    p.unlink(4, 1).is(0);
    p.unlink(4, 1).is(E_NOENT);
    for (int name = 1; name <= 15; name++) new Probe(8, 4).inCapMode(capMode).unlink(0, name).is(E_NOENT);
  }

  private static void refusesWhatIsHeldOpen(boolean capMode) {
    Check.sentence(10, "An open slot has node m: E_BUSY.");
    Probe p = tree(capMode);
    p.unlink(0, 2).is(E_BUSY);
    p.close(2).is(0);
    p.unlink(0, 2).is(E_BUSY);
    p.close(3).is(0);
    p.unlink(0, 2).is(0);
    p.open(0, 5).is(2);
    p.unlink(0, 5).is(E_BUSY);
    p.close(2).is(0);
    p.unlink(0, 5).is(0);
    for (int size : new int[] {4, 16}) onlyOneSlotHolds(capMode, size);
  }

  /** Whichever slot it is that holds the file, the first and the last included. */
  private static void onlyOneSlotHolds(boolean capMode, int size) {
    for (int holder = 0; holder < size; holder++) {
      Probe p = new Probe(8, size).inCapMode(capMode);
      p.create(0, 1, KIND_FILE).is(1);
      p.derive(0, R_ALL).is(1);
      int directory = holder == 0 ? 1 : 0;
      for (int fd = 2; fd < size; fd++) p.derive(0, R_ALL).is(fd);
      p.close(holder).is(0);
      p.open(directory, 1).is(holder);
      p.unlink(directory, 1).is(E_BUSY);
      p.close(holder).is(0);
      p.unlink(directory, 1).is(0);
    }
  }

  private static void refusesWhatHasChildren(boolean capMode) {
    Check.sentence(10, "m is a DIR that has children: E_NOTEMPTY.");
    for (int kind : new int[] {KIND_DIR, KIND_FILE, KIND_LINK}) {
      Probe p = tree(capMode);
      p.unlink(4, 1).is(0);
      p.create(4, 15, kind).is(4);
      p.close(4).is(0);
      p.unlink(0, 1).is(E_NOTEMPTY);
      p.open(0, 1).is(4);
      p.unlink(4, 15).is(0);
      p.close(4).is(0);
      p.unlink(0, 1).is(0);
    }
    Probe moved = tree(capMode);
    moved.rename(4, 1, 0, 9).is(0);
    moved.close(4).is(0);
    moved.unlink(0, 1).is(0);
    for (int directory = 1; directory <= 7; directory++) {
      for (int child = 1; child <= 7; child++) {
        if (child != directory) anyNodeCanBeTheChild(capMode, directory, child);
      }
    }
  }

  private static void anyNodeCanBeTheChild(boolean capMode, int directory, int child) {
    Probe p = new Probe(8, 4).inCapMode(capMode);
    for (int node = 1; node <= 7; node++) p.create(0, node, KIND_DIR).is(node);
    p.open(0, directory).is(1);
    p.rename(0, child, 1, 15).is(0);
    p.close(1).is(0);
    p.unlink(0, directory).is(E_NOTEMPTY);
  }

  private static void refusesInOrder(boolean capMode) {
    Check.sentence(0, ORDER);
    for (int fd = 0; fd <= 5; fd++) {
      for (int name : new int[] {0, 1, 2, 3, 4, 5, 16}) {
        tree(capMode).unlink(fd, name).is(firstRefusal(fd, name, true));
        Probe p = tree(capMode);
        p.close(4).is(0);
        p.unlink(fd, name).is(firstRefusal(fd, name, false));
      }
    }
  }

  private static int firstRefusal(int fd, int name, boolean nodeOneOpen) {
    if (name == 0 || name == 16) return E_BADARG;
    if (fd == 5 || fd == 4 && !nodeOneOpen) return E_BADFD;
    if (fd == 2 || fd == 3) return E_NOTDIR;
    if (fd == 1) return E_NOTCAP;
    if (name == 4 || fd == 4 && name != 1) return E_NOENT;
    if (fd == 4) return 0;
    if (name == 2 || name == 1 && nodeOneOpen) return E_BUSY;
    return name == 1 ? E_NOTEMPTY : 0;
  }

  private static void frees(boolean capMode) {
    Check.sentence(10, "Otherwise m becomes FREE (kind 0, parent 0, name 0, target length 0, flag false), and the answer is 0.");
    Probe p = tree(capMode);
    p.unlink(4, 1).changes(0, "n4.kind=0", "n4.parent=0", "n4.name=0", "nodes=5");
    p.link(4, 1, true, 1, 2, 3, 4);
    p.unlink(4, 1).is(0);
    p.nodeIs(4, KIND_FREE, 0, 0);
    p.targetIs(4, false);
    p.create(4, 1, KIND_DIR).is(4);
    p.unlink(4, 1).is(0);
    p.nodeIs(4, KIND_FREE, 0, 0);
    p.create(4, 15, KIND_FILE).is(4);
  }

  private static void removesTheLinkItself(boolean capMode) {
    Check.sentence(10, "Removing a LINK removes the link itself, not what it points to.");
    Probe p = tree(capMode);
    p.link(0, 6, false, 1).link(0, 7, false, 2);
    p.unlink(0, 3).changes(0, "n3.kind=0", "n3.name=0", "n3.len=0", "n3.abs=0", "n3.0=-10", "n3.1=-10", "nodes=7");
    p.nodeIs(4, KIND_FILE, 1, 1);
    // What these two point to is held open, and one has a child: the links are neither.
    p.unlink(0, 6).changes(0, "n6.kind=0", "n6.name=0", "n6.len=0", "n6.0=-10", "nodes=6");
    p.unlink(0, 7).changes(0, "n7.kind=0", "n7.name=0", "n7.len=0", "n7.0=-10", "nodes=5");
    p.open(4, 1).is(5);
    p.unlink(4, 1).is(E_BUSY);
  }

  private static void neverRemovesTheRoot(boolean capMode) {
    Check.sentence(10, "Node 0 is never removed, since it is never a child.");
    Probe p = tree(capMode);
    p.close(1).is(0);
    for (int name = 0; name <= 16; name++) p.box.unlink(0, name);
    for (int name = 0; name <= 16; name++) p.box.unlink(4, name);
    p.close(0).is(0);
    for (int name = 0; name <= 16; name++) p.box.unlink(4, name);
    p.nodeIs(0, KIND_DIR, 0, 0);
    if (!capMode) p.open(FD_GLOBAL).is(0);
  }

  private static void changesNothingElse(boolean capMode) {
    Check.sentence(10, "Other nodes, all descriptors, the path buffer and the mode are unchanged.");
    Probe p = tree(capMode).link(0, 6, true, 9, 9, 9, 9).path(true, 1, 2, 3, 4, 5, 6, 7, 8);
    p.derive(4, 3).is(5);
    p.unlink(0, 5).changes(0, "n5.kind=0", "n5.name=0", "nodes=6");
    p.unlink(4, 1).changes(0, "n4.kind=0", "n4.parent=0", "n4.name=0", "nodes=5");
  }

  private static void dependsOnNoMode() {
    Check.sentence(10, "unlink works the same whether capability mode is on or off.");
    for (boolean capMode : Doc.both()) {
      Probe p = tree(capMode).path(true, UP);
      p.unlink(0, 3).is(0);
      p.unlink(4, 1).is(0);
      p.unlink(0, 5).is(0);
      p.unlink(0, 1).is(E_BUSY);
      p.unlink(FD_GLOBAL, 1).is(E_BADFD);
    }
  }
}
