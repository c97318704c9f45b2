public final class Promise10UnlinkTest {
  public static void main(String[] args) {
    for (boolean capMode : new boolean[] {false, true}) {
      removes(capMode);
      refuses(capMode);
      refusesWhatSlotZeroHolds(capMode);
    }
    refusesInOrder();
    Check.end("Promise10UnlinkTest");
  }

  /** Nodes 1 = DIR /1, 2 = FILE /2, 3 = LINK /3 to /1/4, 4 = FILE /1/4, 5 = DIR /5. Slot 1 holds node 1. */
  private static CapabilitySandbox box(boolean capMode) {
    CapabilitySandbox box = new CapabilitySandbox(8, 6);
    Check.make(box, 0, 1, 1);
    Check.make(box, 0, 2, 2);
    Check.link(box, 0, 3, true, 1, 4);
    Check.open(box, 0, 63, 1);
    Check.make(box, 1, 4, 2);
    Check.make(box, 0, 5, 1);
    if (capMode) box.enterCapMode();
    return box;
  }

  private static void removes(boolean capMode) {
    CapabilitySandbox box = box(capMode);
    Check.changes(box, "unlink of a link", () -> box.unlink(0, 3), 0,
        "n3.kind=0", "n3.name=0", "n3.len=0", "n3.abs=0", "n3.0=-10", "n3.1=-10", "nodes=5");
    Check.changes(box, "unlink of a file", () -> box.unlink(0, 2), 0, "n2.kind=0", "n2.name=0", "nodes=4");
    Check.changes(box, "unlink of an empty directory", () -> box.unlink(0, 5), 0, "n5.kind=0", "n5.name=0", "nodes=3");
    Check.unchanged(box, "unlink of it again", () -> box.unlink(0, 5), -5);
    box.limit(1, 32);
    Check.changes(box, "unlink with R_DELETE alone", () -> box.unlink(1, 4), 0,
        "n4.kind=0", "n4.parent=0", "n4.name=0", "nodes=2");
    box.close(1);
    Check.changes(box, "unlink of an emptied directory", () -> box.unlink(0, 1), 0, "n1.kind=0", "n1.name=0", "nodes=1");
  }

  private static void refuses(boolean capMode) {
    CapabilitySandbox box = box(capMode);
    for (int name : Check.andFarOut(-1, 0, 16, 17)) {
      Check.unchanged(box, "unlink(0, " + name + ")", () -> box.unlink(0, name), -10);
    }
    for (int fd : Check.andFarOut(-1, -100, 5, 6, 7, 16)) {
      Check.unchanged(box, "unlink(" + fd + ", 2)", () -> box.unlink(fd, 2), -1);
    }
    int file = Check.open(box, 0, 63, 2);
    int bare = box.derive(0, 63 - 32);
    Check.unchanged(box, "unlink in a file", () -> box.unlink(file, 2), -4);
    Check.unchanged(box, "unlink without R_DELETE", () -> box.unlink(bare, 3), -2);
    Check.unchanged(box, "unlink of nothing", () -> box.unlink(0, 14), -5);
    Check.unchanged(box, "unlink of a name from elsewhere", () -> box.unlink(1, 2), -5);
    Check.unchanged(box, "unlink of an open file", () -> box.unlink(0, 2), -11);
    int again = box.derive(file, 0);
    box.close(file);
    Check.unchanged(box, "unlink of a file open without rights", () -> box.unlink(0, 2), -11);
    box.close(again);
    Check.due("unlink of a file closed at last", box.unlink(0, 2), 0);
    int empty = Check.open(box, 0, 63, 5);
    Check.unchanged(box, "unlink of an open empty directory", () -> box.unlink(0, 5), -11);
    Check.due("the slot", empty, 2);
    box.close(1);
    Check.unchanged(box, "unlink of a directory with a child", () -> box.unlink(0, 1), -12);
  }

  private static void refusesWhatSlotZeroHolds(boolean capMode) {
    CapabilitySandbox box = box(capMode);
    box.close(0);
    Check.due("openAt of a file into slot 0", Check.open(box, 1, 0, 4), 0);
    Check.unchanged(box, "unlink of what slot 0 holds", () -> box.unlink(1, 4), -11);
  }

  private static void refusesInOrder() {
    CapabilitySandbox box = box(false);
    int file = Check.open(box, 0, 0, 2);
    int bare = box.derive(0, 0);
    Check.unchanged(box, "a bad name before a bad slot", () -> box.unlink(99, 0), -10);
    Check.unchanged(box, "a file before its rights", () -> box.unlink(file, 1), -4);
    Check.unchanged(box, "rights before no entry", () -> box.unlink(bare, 14), -2);
    Check.unchanged(box, "rights before a busy node", () -> box.unlink(bare, 1), -2);
    Check.unchanged(box, "a busy node before its children", () -> box.unlink(0, 1), -11);
  }
}
