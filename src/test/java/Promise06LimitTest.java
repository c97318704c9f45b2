public final class Promise06LimitTest {
  public static void main(String[] args) {
    for (boolean capMode : new boolean[] {false, true}) limits(capMode);
    neverAdds();
    Check.end("Promise06LimitTest");
  }

  private static void limits(boolean capMode) {
    CapabilitySandbox box = new CapabilitySandbox(8, 4);
    box.derive(0, 63);
    box.derive(1, 63);
    if (capMode) box.enterCapMode();
    Check.unchanged(box, "limit(1, 63)", () -> box.limit(1, 63), 63);
    Check.unchanged(box, "limit(1, -1)", () -> box.limit(1, -1), 63);
    Check.changes(box, "limit(1, 20)", () -> box.limit(1, 20), 20, "fd1.rights=20");
    Check.unchanged(box, "limit(1, 63) after that", () -> box.limit(1, 63), 20);
    Check.changes(box, "limit(1, 6)", () -> box.limit(1, 6), 4, "fd1.rights=4");
    Check.changes(box, "limit(1, 0)", () -> box.limit(1, 0), 0, "fd1.rights=0");
    Check.unchanged(box, "limit(1, -1) after that", () -> box.limit(1, -1), 0);
    Check.changes(box, "limit(0, MIN_VALUE)", () -> box.limit(0, Integer.MIN_VALUE), 0, "fd0.rights=0");
    for (int fd : Check.andFarOut(-1, -100, 3, 4, 5, 16)) {
      Check.unchanged(box, "limit(" + fd + ", 1)", () -> box.limit(fd, 1), -1);
    }
    box.close(2);
    Check.unchanged(box, "limit of a closed slot", () -> box.limit(2, 1), -1);
  }

  private static void neverAdds() {
    for (int first = 0; first <= 63; first++) {
      for (int second : Check.andFarOut(-1, 0, 1, 2, 4, 8, 16, 32, 21, 42, 63, 64, 127)) {
        CapabilitySandbox box = new CapabilitySandbox(8, 4);
        Check.due("limit(0, " + first + ")", box.limit(0, first), first);
        Check.due("limit(0, " + second + ") after " + first, box.limit(0, second), first & second);
        Check.due("its rights", box.fdInfo(0, 1), first & second);
      }
    }
  }
}
