public final class Promise07CloseTest {
  public static void main(String[] args) {
    for (boolean capMode : new boolean[] {false, true}) closes(capMode);
    Check.end("Promise07CloseTest");
  }

  private static void closes(boolean capMode) {
    CapabilitySandbox box = new CapabilitySandbox(8, 5);
    Check.make(box, 0, 1, 2);
    int file = Check.open(box, 0, 63, 1);
    box.derive(file, 5);
    box.derive(0, 0);
    if (capMode) box.enterCapMode();
    Check.changes(box, "close of an origin", () -> box.close(file), 0,
        "fd1.node=-1", "fd1.rights=0", "fd1.origin=-1", "fds=3");
    Check.unchanged(box, "close of it again", () -> box.close(file), -1);
    for (int fd : Check.andFarOut(-1, -100, 4, 5, 6, 15, 16)) {
      Check.unchanged(box, "close(" + fd + ")", () -> box.close(fd), -1);
    }
    Check.changes(box, "close of slot 0", () -> box.close(0), 0, "fd0.node=-1", "fd0.rights=0", "fds=2");
    Check.changes(box, "close of a slot without rights", () -> box.close(3), 0,
        "fd3.node=-1", "fd3.origin=-1", "fds=1");
    Check.changes(box, "close of the last slot", () -> box.close(2), 0,
        "fd2.node=-1", "fd2.rights=0", "fd2.origin=-1", "fds=0");
    Check.unchanged(box, "close when all are closed", () -> box.close(0), -1);
  }
}
