public final class Promise03CreateTest {
  public static void main(String[] args) {
    for (boolean capMode : new boolean[] {false, true}) {
      creates(capMode);
      storesTargets(capMode);
      refuses(capMode);
    }
    refusesInOrder();
    takesTheLowestFreeNode();
    keepsTheTargetsBeside();
    Check.end("Promise03CreateTest");
  }

  private static CapabilitySandbox box(boolean capMode) {
    CapabilitySandbox box = new CapabilitySandbox(8, 6);
    if (capMode) box.enterCapMode();
    return box;
  }

  private static void creates(boolean capMode) {
    CapabilitySandbox box = box(capMode);
    Check.path(box, true, 1, 2, 3, 4, 5, 6, 7, 8);
    Check.changes(box, "create of a DIR", () -> box.create(0, 1, 1), 1, "n1.kind=1", "n1.name=1", "nodes=2");
    Check.changes(box, "create of a FILE", () -> box.create(0, 15, 2), 2, "n2.kind=2", "n2.name=15", "nodes=3");
    int inner = Check.open(box, 0, 63, 1);
    Check.changes(box, "create of a FILE below", () -> box.create(inner, 15, 2), 3,
        "n3.kind=2", "n3.parent=1", "n3.name=15", "nodes=4");
    box.limit(inner, 8);
    Check.changes(box, "create with R_CREATE alone", () -> box.create(inner, 1, 1), 4,
        "n4.kind=1", "n4.parent=1", "n4.name=1", "nodes=5");
  }

  private static void storesTargets(boolean capMode) {
    CapabilitySandbox box = box(capMode);
    Check.path(box, false);
    Check.changes(box, "create of an empty link", () -> box.create(0, 1, 3), 1, "n1.kind=3", "n1.name=1", "nodes=2");
    Check.path(box, true);
    Check.changes(box, "create of an absolute empty link", () -> box.create(0, 2, 3), 2,
        "n2.kind=3", "n2.name=2", "n2.abs=1", "nodes=3");
    Check.path(box, false, 16, 0, 15, 1);
    Check.changes(box, "create of a link of four", () -> box.create(0, 3, 3), 3,
        "n3.kind=3", "n3.name=3", "n3.len=4", "n3.0=16", "n3.1=0", "n3.2=15", "n3.3=1", "nodes=4");
    Check.path(box, true, 9);
    Check.changes(box, "create of an absolute link", () -> box.create(0, 4, 3), 4,
        "n4.kind=3", "n4.name=4", "n4.len=1", "n4.abs=1", "n4.0=9", "nodes=5");
    Check.changes(box, "pathPush after create", () -> box.pathPush(7), 2, "path.len=2", "path.1=7");
    box.unlink(0, 3);
    box.unlink(0, 4);
    Check.changes(box, "create of a DIR where a link was", () -> box.create(0, 5, 1), 3,
        "n3.kind=1", "n3.name=5", "nodes=4");
    Check.changes(box, "create of a FILE where a link was", () -> box.create(0, 6, 2), 4,
        "n4.kind=2", "n4.name=6", "nodes=5");
    Check.path(box, false, 1, 2, 3, 4, 5);
    Check.unchanged(box, "create of a link of five", () -> box.create(0, 9, 3), -14);
    Check.path(box, false, 1, 2, 3, 4, 5, 6, 7, 8);
    Check.unchanged(box, "create of a link of eight", () -> box.create(0, 9, 3), -14);
  }

  private static void refuses(boolean capMode) {
    CapabilitySandbox box = box(capMode);
    Check.make(box, 0, 1, 1);
    Check.make(box, 0, 2, 2);
    int file = Check.open(box, 0, 63, 2);
    int noCreate = box.derive(0, 63 - 8);
    for (int name : Check.andFarOut(0, -1, 16, 17)) {
      Check.unchanged(box, "create(0, " + name + ", 1)", () -> box.create(0, name, 1), -10);
    }
    for (int kind : Check.andFarOut(0, -1, 4, 5)) {
      Check.unchanged(box, "create(0, 5, " + kind + ")", () -> box.create(0, 5, kind), -10);
    }
    for (int fd : Check.andFarOut(-1, 5, 6, 16, -100)) {
      Check.unchanged(box, "create(" + fd + ", 5, 1)", () -> box.create(fd, 5, 1), -1);
    }
    Check.unchanged(box, "create in a file", () -> box.create(file, 5, 1), -4);
    Check.unchanged(box, "create without R_CREATE", () -> box.create(noCreate, 5, 1), -2);
    for (int kind = 1; kind <= 3; kind++) {
      int asked = kind;
      Check.unchanged(box, "create over a DIR", () -> box.create(0, 1, asked), -6);
      Check.unchanged(box, "create over a FILE", () -> box.create(0, 2, asked), -6);
    }
  }

  private static void refusesInOrder() {
    CapabilitySandbox box = box(false);
    Check.make(box, 0, 1, 2);
    int file = Check.open(box, 0, 0, 1);
    int bare = box.derive(0, 63 - 8);
    Check.path(box, false, 1, 2, 3, 4, 5);
    Check.unchanged(box, "bad name before bad fd", () -> box.create(99, 0, 1), -10);
    Check.unchanged(box, "bad kind before bad fd", () -> box.create(99, 1, 0), -10);
    Check.unchanged(box, "bad fd before all else", () -> box.create(99, 1, 3), -1);
    Check.unchanged(box, "a file before its rights", () -> box.create(file, 1, 3), -4);
    Check.unchanged(box, "rights before a long link", () -> box.create(bare, 1, 3), -2);
    Check.unchanged(box, "a long link before an old name", () -> box.create(0, 1, 3), -14);
    for (int name = 2; name <= 7; name++) Check.make(box, 0, name, 2);
    Check.unchanged(box, "an old name before a full tree", () -> box.create(0, 1, 2), -6);
    Check.unchanged(box, "a long link before a full tree", () -> box.create(0, 9, 3), -14);
    Check.unchanged(box, "a full tree", () -> box.create(0, 9, 2), -9);
    Check.unchanged(box, "rights before a full tree", () -> box.create(bare, 9, 2), -2);
    Check.path(box, false);
    Check.unchanged(box, "a full tree and a link", () -> box.create(0, 9, 3), -9);
  }

  private static void takesTheLowestFreeNode() {
    CapabilitySandbox box = box(false);
    for (int name = 1; name <= 5; name++) Check.make(box, 0, name, 2);
    box.unlink(0, 4);
    box.unlink(0, 2);
    Check.due("create into the first gap", box.create(0, 10, 1), 2);
    Check.due("create into the second gap", box.create(0, 11, 1), 4);
    Check.due("create behind the others", box.create(0, 12, 1), 6);
  }

  private static void keepsTheTargetsBeside() {
    CapabilitySandbox box = box(false);
    Check.link(box, 0, 1, false, 1, 2, 3, 4);
    Check.make(box, 0, 2, 2);
    Check.link(box, 0, 3, true, 5, 6, 7, 8);
    box.unlink(0, 2);
    Check.path(box, false, 12, 13, 14, 15);
    Check.changes(box, "create of a link between two", () -> box.create(0, 2, 3), 2,
        "n2.kind=3", "n2.name=2", "n2.len=4", "n2.0=12", "n2.1=13", "n2.2=14", "n2.3=15", "nodes=4");
  }
}
