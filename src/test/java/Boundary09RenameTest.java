/** The boundary sentences of promise 9, each with a test of its own. */
public final class Boundary09RenameTest implements Doc {
  public static void main(String[] args) {
    for (boolean capMode : Doc.both()) {
      refusesBadNames(capMode);
      refusesWhatIsNotOpen(capMode);
      refusesWhatIsNoDirectory(capMode);
      refusesWithoutTheRight(capMode);
      refusesMissingChildren(capMode);
      refusesOldNames(capMode);
      refusesRings(capMode);
      refusesInOrder(capMode);
      moves(capMode);
      movesAllBelow(capMode);
      keepsIndexKindAndTarget(capMode);
      changesNothingElse(capMode);
    }
    dependsOnNoMode();
    Check.end("Boundary09RenameTest");
  }

  /**
   * Nodes 1 = DIR /1, 2 = FILE /2, 3 = DIR /1/1, 4 = LINK /4 to /1.
   * Slots 1 = the root without R_RENAME, 2 and 3 = node 2 with all rights and with none, 4 = node 1, 5 = node 3.
   */
  private static Probe tree(boolean capMode) {
    Probe p = new Probe(8, 8);
    p.create(0, 1, KIND_DIR).is(1);
    p.create(0, 2, KIND_FILE).is(2);
    p.derive(0, R_ALL - R_RENAME).is(1);
    p.open(0, 2).is(2);
    p.derive(2, 0).is(3);
    p.open(0, 1).is(4);
    p.create(4, 1, KIND_DIR).is(3);
    p.open(4, 1).is(5);
    return p.link(0, 4, true, 1).inCapMode(capMode);
  }

  private static void refusesBadNames(boolean capMode) {
    Check.sentence(9, "fromName or toName is outside 1..15: E_BADARG.");
    Probe p = tree(capMode);
    for (int name : Check.andFarOut(-1, 0, 16, 17, 32)) {
      p.rename(0, name, 0, 5).is(E_BADARG);
      p.rename(0, 1, 0, name).is(E_BADARG);
      p.rename(0, name, 0, name).is(E_BADARG);
    }
    p.rename(0, 1, 0, 15).is(0);
    p.rename(0, 15, 0, 1).is(0);
  }

  private static void refusesWhatIsNotOpen(boolean capMode) {
    Probe p = tree(capMode);
    for (int fd : Check.andFarOut(-1, FD_GLOBAL, 6, 7, 8, 9, 15, 16)) {
      Check.sentence(9, "fromFd is not open: E_BADFD.");
      p.rename(fd, 1, 0, 5).is(E_BADFD);
      p.rename(fd, 1, fd, 5).is(E_BADFD);
      Check.sentence(9, "toFd is not open: E_BADFD.");
      p.rename(0, 1, fd, 5).is(E_BADFD);
    }
    p.close(5).is(0);
    Check.sentence(9, "fromFd is not open: E_BADFD.");
    p.rename(5, 1, 0, 5).is(E_BADFD);
    Check.sentence(9, "toFd is not open: E_BADFD.");
    p.rename(0, 2, 5, 5).is(E_BADFD);
  }

  private static void refusesWhatIsNoDirectory(boolean capMode) {
    Probe p = tree(capMode);
    Check.sentence(9, "fromFd's node is not a DIR: E_NOTDIR.");
    p.rename(2, 1, 0, 5).is(E_NOTDIR);
    p.rename(2, 1, 2, 5).is(E_NOTDIR);
    Check.sentence(9, "toFd's node is not a DIR: E_NOTDIR.");
    p.rename(0, 1, 2, 5).is(E_NOTDIR);
    p.rename(0, 2, 2, 5).is(E_NOTDIR);
  }

  private static void refusesWithoutTheRight(boolean capMode) {
    for (int rights = 0; rights <= R_ALL; rights++) {
      int due = (rights & R_RENAME) != 0 ? 0 : E_NOTCAP;
      Check.sentence(9, "fromFd's rights lack R_RENAME: E_NOTCAP.");
      Probe from = tree(capMode);
      from.limit(0, rights).is(rights);
      from.rename(0, 2, 5, 5).is(due);
      Check.sentence(9, "toFd's rights lack R_RENAME: E_NOTCAP.");
      Probe to = tree(capMode);
      to.limit(5, rights).is(rights);
      to.rename(0, 2, 5, 5).is(due);
    }
  }

  private static void refusesMissingChildren(boolean capMode) {
    Check.sentence(9, "There is no child fromName in the source directory: E_NOENT.");
    Probe p = tree(capMode);
    for (int name : new int[] {3, 5, 14, 15}) p.rename(0, name, 0, 9).is(E_NOENT);
    for (int name = 1; name <= 15; name++) p.rename(5, name, 0, 9).is(E_NOENT);
    p.rename(4, 2, 0, 9).is(E_NOENT);
    p.rename(0, 2, 4, 9).is(0);
    p.rename(0, 2, 4, 8).is(E_NOENT);
    p.unlink(0, 4).is(0);
    p.rename(0, 4, 0, 9).is(E_NOENT);
  }

  private static void refusesOldNames(boolean capMode) {
    Check.sentence(9, "The target directory has a child named toName (m itself counts, so renaming a node to its own name "
        + "in its own directory is refused): E_EXIST.");
    Probe p = tree(capMode);
    for (int name : new int[] {1, 2, 4}) {
      p.rename(0, name, 0, name).is(E_EXIST);
      for (int other : new int[] {1, 2, 4}) p.rename(0, name, 0, other).is(E_EXIST);
      p.rename(0, name, 4, 1).is(E_EXIST);
    }
    p.rename(4, 1, 0, 1).is(E_EXIST);
    p.rename(0, 2, 5, 1).is(0);
    p.rename(0, 4, 0, 2).is(0);
  }

  private static void refusesRings(boolean capMode) {
    Check.sentence(9, "m is a DIR and the target directory is m or a descendant of m: E_INVAL.");
    Probe p = tree(capMode);
    p.rename(0, 1, 4, 9).is(E_INVAL);
    p.rename(0, 1, 5, 9).is(E_INVAL);
    p.rename(4, 1, 5, 9).is(E_INVAL);
    p.create(5, 1, KIND_DIR).is(5);
    p.open(5, 1).is(6);
    for (int toFd = 4; toFd <= 6; toFd++) p.rename(0, 1, toFd, 9).is(E_INVAL);
    // Neither a link nor a file has descendants, wherever the link leads.
    p.rename(0, 4, 4, 9).is(0);
    p.rename(0, 2, 6, 9).is(0);
    p.rename(4, 1, 0, 9).is(0);
    p.rename(0, 1, 6, 1).is(0);
    p.rename(0, 9, 4, 9).is(E_EXIST);
    p.rename(0, 9, 4, 8).is(E_INVAL);
    ringsAtTheDeepest(capMode);
  }

  /** As many directories within each other as there are nodes. Slots 1 and 2 hold the highest and the lowest. */
  private static void ringsAtTheDeepest(boolean capMode) {
    for (int size : new int[] {8, 32}) {
      Probe p = new Probe(size, 4);
      p.create(0, 1, KIND_DIR).is(1);
      p.open(0, 1).is(1);
      p.derive(1, R_ALL).is(2);
      for (int node = 2; node < size; node++) {
        p.create(2, 1, KIND_DIR).is(node);
        p.open(2, 1).is(3);
        p.close(2).is(0);
        p.derive(3, R_ALL).is(2);
        p.close(3).is(0);
      }
      p.inCapMode(capMode);
      p.rename(0, 1, 2, 1).is(E_INVAL);
      p.rename(1, 1, 2, 1).is(E_INVAL);
      p.rename(1, 1, 0, 2).is(0);
      p.rename(0, 1, 2, 1).changes(0, "n1.parent=" + (size - 1));
      p.rename(0, 2, 1, 1).is(E_INVAL);
    }
  }

  private static void refusesInOrder(boolean capMode) {
    Check.sentence(0, ORDER);
    int[] names = {0, 1, 2, 3, 16};
    for (int fromFd = 0; fromFd <= 6; fromFd++) {
      for (int toFd = 0; toFd <= 6; toFd++) {
        for (int fromName : names) {
          for (int toName : names) {
            int due = firstRefusal(fromFd, fromName, toFd, toName);
            tree(capMode).rename(fromFd, fromName, toFd, toName).is(due);
          }
        }
      }
    }
  }

  private static int firstRefusal(int fromFd, int fromName, int toFd, int toName) {
    if (fromName == 0 || fromName == 16 || toName == 0 || toName == 16) return E_BADARG;
    if (fromFd == 6 || toFd == 6) return E_BADFD;
    if (fromFd == 2 || fromFd == 3 || toFd == 2 || toFd == 3) return E_NOTDIR;
    if (fromFd == 1 || toFd == 1) return E_NOTCAP;
    if (!hasChild(fromFd, fromName)) return E_NOENT;
    if (hasChild(toFd, toName)) return E_EXIST;
    boolean movesNodeOne = fromFd == 0 && fromName == 1;
    boolean movesNodeThree = fromFd == 4;
    boolean ring = movesNodeOne && toFd != 0 || movesNodeThree && toFd == 5;
    return ring ? E_INVAL : 0;
  }

  private static boolean hasChild(int fd, int name) {
    return fd == 0 && (name == 1 || name == 2) || fd == 4 && name == 1;
  }

  private static void moves(boolean capMode) {
    Check.sentence(9, "Otherwise m's parent becomes the target directory and m's name becomes toName.");
    Probe p = tree(capMode);
    p.rename(0, 2, 0, 15).changes(0, "n2.name=15");
    p.rename(0, 15, 4, 15).changes(0, "n2.parent=1");
    p.rename(4, 15, 5, 1).changes(0, "n2.parent=3", "n2.name=1");
    p.open(4, 1, 1).is(6);
    p.slotIs(6, 2, R_ALL, 4);
    p.open(0, 2).is(E_NOENT);
    // The old name is free again.
    p.create(0, 2, KIND_FILE).is(5);
  }

  private static void movesAllBelow(boolean capMode) {
    Check.sentence(9, "A whole directory moves with everything below it.");
    Probe p = tree(capMode);
    p.create(5, 7, KIND_FILE).is(5);
    p.create(0, 8, KIND_DIR).is(6);
    p.open(0, 8).is(6);
    p.rename(0, 1, 6, 9).changes(0, "n1.parent=6", "n1.name=9");
    p.open(0, 8, 9, 1, 7).is(7);
    p.slotIs(7, 5, R_ALL, 0);
    p.close(7).is(0);
    p.open(0, 1).is(E_NOENT);
    p.close(4).is(0);
    p.unlink(6, 9).is(E_NOTEMPTY);
  }

  private static void keepsIndexKindAndTarget(boolean capMode) {
    Check.sentence(9, "m keeps its index, kind and link target; "
        + "descriptors naming m or its descendants stay open and keep naming the same nodes.");
    Probe p = tree(capMode);
    p.link(0, 5, true, 1, 16, 0, 15).link(0, 6, false);
    p.path(false, 2, 2, 2, 2, 2);
    p.rename(0, 5, 5, 3).changes(0, "n5.parent=3", "n5.name=3");
    p.targetIs(5, true, 1, 16, 0, 15);
    p.rename(0, 6, 5, 4).changes(0, "n6.parent=3", "n6.name=4");
    p.targetIs(6, false);
    p.rename(0, 1, 0, 9).changes(0, "n1.name=9");
    p.slotIs(4, 1, R_ALL, 0);
    p.slotIs(5, 3, R_ALL, 4);
    p.rename(0, 2, 4, 2).changes(0, "n2.parent=1");
    p.slotIs(2, 2, R_ALL, 0);
    p.slotIs(3, 2, 0, 2);
    p.create(4, 3, KIND_FILE).is(7);
    p.nodeIs(7, KIND_FILE, 1, 3);
  }

  private static void changesNothingElse(boolean capMode) {
    Check.sentence(9, "Other nodes, all descriptors, the path buffer and the mode are unchanged.");
    Probe p = tree(capMode).path(true, 1, 2, 3, 4, 5, 6, 7, 8);
    for (int name = 5; name <= 7; name++) p.create(0, name, KIND_FILE).is(name);
    p.derive(0, 0).is(6);
    p.derive(0, 0).is(7);
    // No node and no slot is left: rename needs neither.
    p.create(0, 9, KIND_FILE).is(E_FULL);
    p.rename(0, 7, 5, 7).changes(0, "n7.parent=3");
    p.rename(4, 1, 0, 3).changes(0, "n3.parent=0", "n3.name=3");
  }

  private static void dependsOnNoMode() {
    Check.sentence(9, "This works the same whether capability mode is on or off.");
    // With the mode on, a node still moves out of a descriptor's subtree, to wherever another descriptor leads.
    Probe p = tree(true);
    p.create(5, 9, KIND_FILE).is(5);
    p.rename(5, 9, 0, 9).changes(0, "n5.parent=0");
    p.rename(0, 9, 5, 8).changes(0, "n5.parent=3", "n5.name=8");
    p.rename(FD_GLOBAL, 9, 5, 8).is(E_BADFD);
  }
}
