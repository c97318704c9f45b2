public final class Promise12FdInfoTest {
  public static void main(String[] args) {
    CapabilitySandbox box = new CapabilitySandbox(8, 5);
    Check.make(box, 0, 1, 2);
    int file = Check.open(box, 0, 7, 1);
    box.derive(file, 3);
    tells(box, 0, 0, 63, -1);
    tells(box, 1, 1, 7, 0);
    tells(box, 2, 1, 3, 1);
    tells(box, 3, -1, 0, -1);
    tells(box, 4, -1, 0, -1);
    box.close(1);
    tells(box, 1, -1, 0, -1);
    tells(box, 2, 1, 3, 1);
    box.enterCapMode();
    tells(box, 0, 0, 63, -1);
    for (int fd : Check.andFarOut(-1, -100, 5, 6, 15, 16)) {
      for (int what = -1; what <= 3; what++) {
        int asked = what;
        Check.unchanged(box, "fdInfo(" + fd + ", " + what + ")", () -> box.fdInfo(fd, asked), -1);
      }
    }
    Check.end("Promise12FdInfoTest");
  }

  private static void tells(CapabilitySandbox box, int fd, int node, int rights, int origin) {
    int[] due = {node, rights, origin};
    for (int i = 0; i < due.length; i++) {
      int what = i;
      Check.unchanged(box, "fdInfo(" + fd + ", " + i + ")", () -> box.fdInfo(fd, what), due[i]);
    }
    for (int what : Check.andFarOut(-1, 3, 4, 8)) {
      Check.unchanged(box, "fdInfo(" + fd + ", " + what + ")", () -> box.fdInfo(fd, what), -10);
    }
  }
}
