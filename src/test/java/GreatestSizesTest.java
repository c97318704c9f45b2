/** Every method on an object of the greatest sizes with every node and every slot in use. */
public final class GreatestSizesTest {
  public static void main(String[] args) {
    CapabilitySandbox box = fullBox();
    Check.due("nodes", box.status(3), 32);
    Check.due("fds", box.status(4), 16);
    refusesOutside(box);
    refusesMore(box);
    usesTheLast(box);
    Check.end("GreatestSizesTest");
  }

  /**
   * Nodes 1 and 2 = DIR /1 and /2, 3 to 15 = FILE, 16 to 29 = FILE below /1, 30 = DIR /1/15, 31 = LINK /2/1.
   * Slots 1 and 2 hold nodes 1 and 2, 3 to 14 the root, 15 holds node 29.
   */
  private static CapabilitySandbox fullBox() {
    CapabilitySandbox box = new CapabilitySandbox(32, 16);
    for (int name = 1; name <= 15; name++) Check.make(box, 0, name, name <= 2 ? 1 : 2);
    Check.open(box, 0, 63, 1);
    Check.open(box, 0, 63, 2);
    for (int name = 1; name <= 15; name++) Check.make(box, 1, name, name == 15 ? 1 : 2);
    Check.path(box, true, 1, 16, 0, 2);
    Check.changes(box, "create of link 31", () -> box.create(2, 1, 3), 31,
        "n31.kind=3", "n31.parent=2", "n31.name=1", "n31.len=4", "n31.abs=1",
        "n31.0=1", "n31.1=16", "n31.2=0", "n31.3=2", "nodes=32");
    for (int fd = 3; fd <= 14; fd++) box.derive(0, 63);
    Check.due("openAt of node 29", Check.open(box, 1, 63, 14), 15);
    return box;
  }

  private static void refusesOutside(CapabilitySandbox box) {
    for (int fd : Check.andFarOut(-1, 16, 17)) {
      Check.unchanged(box, "create(" + fd + ", 1, 1)", () -> box.create(fd, 1, 1), -1);
      Check.unchanged(box, "openAt(" + fd + ", 63)", () -> box.openAt(fd, 63), -1);
      Check.unchanged(box, "derive(" + fd + ", 63)", () -> box.derive(fd, 63), -1);
      Check.unchanged(box, "limit(" + fd + ", 63)", () -> box.limit(fd, 63), -1);
      Check.unchanged(box, "close(" + fd + ")", () -> box.close(fd), -1);
      Check.unchanged(box, "rename(" + fd + ", 1, 0, 1)", () -> box.rename(fd, 1, 0, 1), -1);
      Check.unchanged(box, "rename(0, 1, " + fd + ", 1)", () -> box.rename(0, 1, fd, 1), -1);
      Check.unchanged(box, "unlink(" + fd + ", 1)", () -> box.unlink(fd, 1), -1);
      Check.unchanged(box, "fdInfo(" + fd + ", 0)", () -> box.fdInfo(fd, 0), -1);
    }
    for (int node : Check.andFarOut(-1, 32, 33)) {
      Check.unchanged(box, "nodeInfo(" + node + ", 0)", () -> box.nodeInfo(node, 0), -10);
      Check.unchanged(box, "nodeInfo(" + node + ", 8)", () -> box.nodeInfo(node, 8), -10);
    }
  }

  private static void refusesMore(CapabilitySandbox box) {
    Check.path(box, false, 1);
    Check.unchanged(box, "create of one more", () -> box.create(2, 2, 3), -9);
    Check.unchanged(box, "create of a name that is there", () -> box.create(0, 15, 1), -6);
    Check.unchanged(box, "openAt of one more", () -> box.openAt(0, 63), -9);
    Check.unchanged(box, "derive of one more", () -> box.derive(15, 63), -9);
    Check.unchanged(box, "unlink of what slot 15 holds", () -> box.unlink(1, 14), -11);
    Check.unchanged(box, "rename of no child", () -> box.rename(2, 15, 0, 1), -5);
    Check.path(box, false, 2, 2);
    Check.unchanged(box, "openAt of no child", () -> box.openAt(0, 63), -5);
  }

  private static void usesTheLast(CapabilitySandbox box) {
    Check.changes(box, "limit of slot 15", () -> box.limit(15, 1), 1, "fd15.rights=1");
    Check.changes(box, "close of slot 15", () -> box.close(15), 0,
        "fd15.node=-1", "fd15.rights=0", "fd15.origin=-1", "fds=15");
    Check.path(box, false, 2, 1, 0);
    Check.changes(box, "openAt through link 31", () -> box.openAt(14, 63), 15,
        "fd15.node=2", "fd15.rights=63", "fd15.origin=14", "fds=16");
    Check.changes(box, "unlink of an empty directory", () -> box.unlink(1, 15), 0,
        "n30.kind=0", "n30.parent=0", "n30.name=0", "nodes=31");
    box.close(2);
    box.close(15);
    Check.unchanged(box, "unlink of a directory that holds node 31", () -> box.unlink(0, 2), -12);
    Check.changes(box, "rename of node 31's directory", () -> box.rename(0, 2, 1, 15), 0, "n2.parent=1", "n2.name=15");
    Check.due("openAt of /1/15", Check.open(box, 0, 63, 1, 15), 2);
    Check.changes(box, "unlink of node 31", () -> box.unlink(2, 1), 0,
        "n31.kind=0", "n31.parent=0", "n31.name=0", "n31.len=0", "n31.abs=0",
        "n31.0=-10", "n31.1=-10", "n31.2=-10", "n31.3=-10", "nodes=30");
  }
}
