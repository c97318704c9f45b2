public final class Promise05DeriveTest {
  public static void main(String[] args) {
    for (boolean capMode : new boolean[] {false, true}) {
      derives(capMode);
      refuses(capMode);
    }
    meetsRights();
    Check.end("Promise05DeriveTest");
  }

  private static CapabilitySandbox box(boolean capMode) {
    CapabilitySandbox box = new CapabilitySandbox(8, 4);
    Check.make(box, 0, 1, 2);
    if (capMode) box.enterCapMode();
    return box;
  }

  private static void derives(boolean capMode) {
    CapabilitySandbox box = box(capMode);
    Check.changes(box, "derive(0, 21)", () -> box.derive(0, 21), 1,
        "fd1.node=0", "fd1.rights=21", "fd1.origin=0", "fds=2");
    Check.changes(box, "derive(1, 63)", () -> box.derive(1, 63), 2,
        "fd2.node=0", "fd2.rights=21", "fd2.origin=1", "fds=3");
    box.close(1);
    int file = Check.open(box, 0, 0, 1);
    Check.changes(box, "derive of a file without rights", () -> box.derive(file, -1), 3,
        "fd3.node=1", "fd3.origin=1", "fds=4");
    box.close(0);
    Check.changes(box, "derive into slot 0", () -> box.derive(2, 16), 0,
        "fd0.node=0", "fd0.rights=16", "fd0.origin=2", "fds=4");
  }

  private static void refuses(boolean capMode) {
    CapabilitySandbox box = box(capMode);
    for (int fd : Check.andFarOut(-1, -100, 1, 3, 4, 5, 16)) {
      Check.unchanged(box, "derive(" + fd + ", 63)", () -> box.derive(fd, 63), -1);
    }
    for (int fd = 1; fd < 4; fd++) box.derive(0, 63);
    Check.unchanged(box, "derive when full", () -> box.derive(0, 63), -9);
    Check.unchanged(box, "derive of a bad fd when full", () -> box.derive(4, 63), -1);
    box.close(2);
    Check.unchanged(box, "derive of a closed slot", () -> box.derive(2, 63), -1);
  }

  private static void meetsRights() {
    for (int source = 0; source <= 63; source++) {
      for (int rights : Check.andFarOut(-1, 0, 1, 2, 21, 42, 63, 64, 127)) {
        CapabilitySandbox box = box(false);
        box.limit(0, source);
        Check.due("derive(0, " + rights + ") with rights " + source, box.derive(0, rights), 1);
        Check.due("its rights", box.fdInfo(1, 1), source & rights);
        Check.due("rights of slot 0", box.fdInfo(0, 1), source);
      }
    }
  }
}
