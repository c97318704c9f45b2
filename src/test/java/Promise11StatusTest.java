public final class Promise11StatusTest {
  public static void main(String[] args) {
    CapabilitySandbox box = new CapabilitySandbox(11, 7);
    tells(box, 0, 0, 0, 1, 1);
    Check.path(box, true, 3, 16, 0);
    tells(box, 0, 3, 1, 1, 1);
    Check.due("status(ST_PATHCOMP)", box.status(8), 3);
    Check.due("status(ST_PATHCOMP + 1)", box.status(9), 16);
    Check.due("status(ST_PATHCOMP + 2)", box.status(10), 0);
    box.create(0, 1, 1);
    box.create(0, 2, 3);
    box.create(0, 3, 2);
    box.derive(0, 0);
    tells(box, 0, 3, 1, 4, 2);
    box.enterCapMode();
    box.unlink(0, 2);
    box.close(0);
    box.close(1);
    tells(box, 1, 3, 1, 3, 0);
    Check.path(box, false, 1, 2, 3, 4, 5, 6, 7, 8);
    tells(box, 1, 8, 0, 3, 0);
    for (int i = 0; i < 8; i++) Check.due("component " + i, box.status(8 + i), i + 1);
    box.pathReset(false);
    tells(box, 1, 0, 0, 3, 0);
    Check.end("Promise11StatusTest");
  }

  private static void tells(CapabilitySandbox box, int capMode, int length, int absolute, int nodes, int fds) {
    int[] due = {capMode, length, absolute, nodes, fds, 11, 7, -10};
    for (int i = 0; i < due.length; i++) {
      int what = i;
      Check.unchanged(box, "status(" + i + ")", () -> box.status(what), due[i]);
    }
    for (int what = 8 + length; what <= 40; what++) {
      int beyond = what;
      Check.unchanged(box, "status(" + what + ")", () -> box.status(beyond), -10);
    }
    for (int what : Check.andFarOut(-1, -8, -16)) {
      Check.unchanged(box, "status(" + what + ")", () -> box.status(what), -10);
    }
  }
}
