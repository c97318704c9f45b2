public final class Promise13NodeInfoTest {
  public static void main(String[] args) {
    CapabilitySandbox box = new CapabilitySandbox(9, 4);
    Check.make(box, 0, 9, 1);
    int inner = Check.open(box, 0, 63, 9);
    Check.make(box, inner, 15, 2);
    Check.link(box, inner, 3, true, 16, 0, 15, 7);
    Check.link(box, 0, 4, false, 5);
    Check.link(box, 0, 5, true);
    tells(box, 0, 1, 0, 0, 0);
    tells(box, 1, 1, 0, 9, 0);
    tells(box, 2, 2, 1, 15, 0);
    tells(box, 3, 3, 1, 3, 1, 16, 0, 15, 7);
    tells(box, 4, 3, 0, 4, 0, 5);
    tells(box, 5, 3, 0, 5, 1);
    tells(box, 6, 0, 0, 0, 0);
    tells(box, 8, 0, 0, 0, 0);
    Check.path(box, false, 1, 2, 3);
    box.enterCapMode();
    tells(box, 3, 3, 1, 3, 1, 16, 0, 15, 7);
    box.rename(inner, 3, 0, 14);
    tells(box, 3, 3, 0, 14, 1, 16, 0, 15, 7);
    box.unlink(0, 14);
    tells(box, 3, 0, 0, 0, 0);
    for (int node : Check.andFarOut(-1, 9, 10, 31, 32, 33)) {
      for (int what = -1; what <= 12; what++) {
        int asked = what;
        Check.unchanged(box, "nodeInfo(" + node + ", " + what + ")", () -> box.nodeInfo(node, asked), -10);
      }
    }
    Check.end("Promise13NodeInfoTest");
  }

  private static void tells(CapabilitySandbox box, int node, int kind, int parent, int name, int absolute, int... target) {
    int[] due = {kind, parent, name, target.length, absolute, -10, -10, -10};
    for (int i = 0; i < due.length; i++) {
      int what = i;
      Check.unchanged(box, "nodeInfo(" + node + ", " + i + ")", () -> box.nodeInfo(node, what), due[i]);
    }
    for (int i = 0; i < 12; i++) {
      int what = 8 + i;
      int component = i < target.length ? target[i] : -10;
      Check.unchanged(box, "nodeInfo(" + node + ", " + what + ")", () -> box.nodeInfo(node, what), component);
    }
    for (int what : Check.andFarOut(-1, -8)) {
      Check.unchanged(box, "nodeInfo(" + node + ", " + what + ")", () -> box.nodeInfo(node, what), -10);
    }
  }
}
