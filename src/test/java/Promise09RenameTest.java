public final class Promise09RenameTest {
  public static void main(String[] args) {
    for (boolean capMode : new boolean[] {false, true}) {
      moves(capMode);
      movesDirectories(capMode);
      refuses(capMode);
    }
    refusesInOrder();
    refusesAtTheDeepest();
    Check.end("Promise09RenameTest");
  }

  /**
   * Nodes 1 = DIR /1, 2 = DIR /2, 3 = FILE /3, 4 = LINK /4 to /1/2, 5 = DIR /1/1, 6 = FILE /1/1/1, 7 = FILE /1/3.
   * Slots 1, 2, 3, 4 hold nodes 1, 2, 5, 3.
   */
  private static CapabilitySandbox box(boolean capMode) {
    CapabilitySandbox box = new CapabilitySandbox(12, 8);
    Check.make(box, 0, 1, 1);
    Check.make(box, 0, 2, 1);
    Check.make(box, 0, 3, 2);
    Check.link(box, 0, 4, true, 1, 2);
    Check.open(box, 0, 63, 1);
    Check.make(box, 1, 1, 1);
    Check.open(box, 0, 63, 2);
    Check.open(box, 0, 63, 1, 1);
    Check.make(box, 3, 1, 2);
    Check.make(box, 1, 3, 2);
    Check.open(box, 0, 63, 3);
    if (capMode) box.enterCapMode();
    return box;
  }

  private static void moves(boolean capMode) {
    CapabilitySandbox box = box(capMode);
    Check.changes(box, "rename within the root", () -> box.rename(0, 3, 0, 15), 0, "n3.name=15");
    Check.changes(box, "rename back", () -> box.rename(0, 15, 0, 3), 0, "n3.name=3");
    Check.changes(box, "rename of a link", () -> box.rename(0, 4, 2, 4), 0, "n4.parent=2");
    Check.changes(box, "rename of an open file", () -> box.rename(0, 3, 2, 9), 0, "n3.parent=2", "n3.name=9");
    Check.changes(box, "rename up", () -> box.rename(3, 1, 0, 3), 0, "n6.parent=0", "n6.name=3");
    box.limit(0, 16);
    box.limit(2, 16);
    Check.changes(box, "rename with R_RENAME alone", () -> box.rename(2, 9, 0, 9), 0, "n3.parent=0");
    Check.unchanged(box, "rename of what has gone", () -> box.rename(2, 9, 0, 10), -5);
  }

  private static void movesDirectories(boolean capMode) {
    CapabilitySandbox box = box(capMode);
    Check.changes(box, "rename of an open directory", () -> box.rename(0, 1, 2, 7), 0, "n1.parent=2", "n1.name=7");
    Check.path(box, false, 2, 7, 1, 1);
    Check.changes(box, "openAt of what moved along", () -> box.openAt(0, 63), 5,
        "fd5.node=6", "fd5.rights=63", "fd5.origin=0", "fds=6");
    Check.changes(box, "rename of it to the root", () -> box.rename(2, 7, 0, 1), 0, "n1.parent=0", "n1.name=1");
    Check.changes(box, "rename of a directory below another", () -> box.rename(0, 2, 3, 2), 0, "n2.parent=5");
    Check.changes(box, "rename to a brother of its parent", () -> box.rename(1, 1, 0, 8), 0, "n5.parent=0", "n5.name=8");
  }

  private static void refuses(boolean capMode) {
    CapabilitySandbox box = box(capMode);
    for (int name : Check.andFarOut(-1, 0, 16, 17)) {
      Check.unchanged(box, "rename from " + name, () -> box.rename(0, name, 0, 5), -10);
      Check.unchanged(box, "rename to " + name, () -> box.rename(0, 1, 0, name), -10);
    }
    for (int fd : Check.andFarOut(-1, -100, 7, 8, 9, 16)) {
      Check.unchanged(box, "rename from slot " + fd, () -> box.rename(fd, 1, 0, 5), -1);
      Check.unchanged(box, "rename to slot " + fd, () -> box.rename(0, 1, fd, 5), -1);
    }
    Check.unchanged(box, "rename from a file", () -> box.rename(4, 1, 0, 5), -4);
    Check.unchanged(box, "rename to a file", () -> box.rename(0, 1, 4, 5), -4);
    int bare = box.derive(0, 63 - 16);
    Check.unchanged(box, "rename without R_RENAME there", () -> box.rename(bare, 1, 2, 5), -2);
    Check.unchanged(box, "rename without R_RENAME here", () -> box.rename(2, 1, bare, 5), -2);
    Check.unchanged(box, "rename of nothing", () -> box.rename(0, 14, 0, 5), -5);
    Check.unchanged(box, "rename of a name from elsewhere", () -> box.rename(2, 3, 0, 5), -5);
    Check.unchanged(box, "rename to itself", () -> box.rename(0, 3, 0, 3), -6);
    Check.unchanged(box, "rename of a directory to itself", () -> box.rename(0, 1, 0, 1), -6);
    Check.unchanged(box, "rename over a directory", () -> box.rename(0, 3, 0, 1), -6);
    Check.unchanged(box, "rename over a file elsewhere", () -> box.rename(0, 3, 1, 3), -6);
    Check.unchanged(box, "rename over a link", () -> box.rename(1, 3, 0, 4), -6);
    Check.unchanged(box, "rename into itself", () -> box.rename(0, 1, 1, 5), -13);
    Check.unchanged(box, "rename below itself", () -> box.rename(0, 1, 3, 5), -13);
  }

  private static void refusesInOrder() {
    CapabilitySandbox box = box(false);
    box.limit(4, 0);
    int bare = box.derive(0, 0);
    Check.unchanged(box, "a bad name before a bad slot", () -> box.rename(99, 1, 98, 0), -10);
    Check.unchanged(box, "a bad name from before a bad slot", () -> box.rename(99, 0, 98, 1), -10);
    Check.unchanged(box, "a bad slot to before a file from", () -> box.rename(4, 1, 99, 1), -1);
    Check.unchanged(box, "a bad slot from before a file to", () -> box.rename(99, 1, 4, 1), -1);
    Check.unchanged(box, "a bad slot to before rights from", () -> box.rename(bare, 1, 99, 1), -1);
    Check.unchanged(box, "a file to before rights from", () -> box.rename(bare, 1, 4, 1), -4);
    Check.unchanged(box, "a file from before its rights", () -> box.rename(4, 1, bare, 1), -4);
    Check.unchanged(box, "rights from before no entry", () -> box.rename(bare, 14, 0, 1), -2);
    Check.unchanged(box, "rights to before no entry", () -> box.rename(0, 14, bare, 1), -2);
    Check.unchanged(box, "no entry before an old name", () -> box.rename(0, 14, 0, 1), -5);
    Check.unchanged(box, "an old name before a ring", () -> box.rename(0, 1, 1, 1), -6);
    Check.unchanged(box, "an old name before a ring below", () -> box.rename(0, 1, 3, 1), -6);
  }

  private static void refusesAtTheDeepest() {
    CapabilitySandbox box = new CapabilitySandbox(32, 4);
    int above = 0;
    int top = 0;
    for (int node = 1; node < 32; node++) {
      Check.due("create of node " + node, box.create(above, 1, 1), node);
      int below = Check.open(box, above, 63, 1);
      if (node == 1) top = below;
      if (node > 2) box.close(above);
      above = below;
    }
    int deepest = above;
    Check.unchanged(box, "rename of the top below the deepest", () -> box.rename(0, 1, deepest, 1), -13);
    int highest = top;
    Check.unchanged(box, "rename of the second below the deepest", () -> box.rename(highest, 1, deepest, 1), -13);
    Check.changes(box, "rename of the second to the root", () -> box.rename(highest, 1, 0, 2), 0,
        "n2.parent=0", "n2.name=2");
    Check.changes(box, "rename of the top below the deepest, now apart", () -> box.rename(0, 1, deepest, 1), 0,
        "n1.parent=31");
  }
}
