public final class Promise02PathBufferTest {
  public static void main(String[] args) {
    for (boolean capMode : new boolean[] {false, true}) {
      for (boolean absolute : new boolean[] {false, true}) {
        pushes(capMode, absolute);
        fills(capMode, absolute);
        resets(capMode, absolute);
      }
    }
    Check.end("Promise02PathBufferTest");
  }

  private static CapabilitySandbox box(boolean capMode, boolean absolute) {
    CapabilitySandbox box = new CapabilitySandbox(8, 4);
    if (capMode) box.enterCapMode();
    box.pathReset(absolute);
    return box;
  }

  private static void pushes(boolean capMode, boolean absolute) {
    for (int c = 0; c <= 16; c++) {
      CapabilitySandbox box = box(capMode, absolute);
      int component = c;
      Check.changes(box, "pathPush(" + c + ")", () -> box.pathPush(component), 1, "path.len=1", "path.0=" + c);
    }
    CapabilitySandbox box = box(capMode, absolute);
    for (int c : Check.andFarOut(-1, 17, 18, 32, -16)) {
      Check.unchanged(box, "pathPush(" + c + ")", () -> box.pathPush(c), -10);
    }
  }

  private static void fills(boolean capMode, boolean absolute) {
    CapabilitySandbox box = box(capMode, absolute);
    for (int i = 0; i < 8; i++) {
      int component = 2 * i + 1;
      String call = "pathPush(" + component + ")";
      int length = i + 1;
      Check.changes(box, call, () -> box.pathPush(component), length, "path.len=" + length, "path." + i + "=" + component);
    }
    for (int c = 0; c <= 16; c++) {
      int component = c;
      Check.unchanged(box, "pathPush(" + c + ") when full", () -> box.pathPush(component), -14);
    }
    for (int c : Check.andFarOut(-1, 17)) {
      Check.unchanged(box, "pathPush(" + c + ") when full", () -> box.pathPush(c), -10);
    }
  }

  private static void resets(boolean capMode, boolean absolute) {
    CapabilitySandbox box = box(capMode, absolute);
    box.pathPush(0);
    box.pathPush(16);
    String flag = absolute ? "path.abs=0" : "path.abs=1";
    Check.changes(box, "pathReset to the other flag", () -> reset(box, !absolute), 0,
        "path.len=0", "path.0=-10", "path.1=-10", flag);
    Check.unchanged(box, "pathReset to the same flag", () -> reset(box, !absolute), 0);
    Check.changes(box, "pathPush after a reset", () -> box.pathPush(9), 1, "path.len=1", "path.0=9");
    Check.changes(box, "pathReset with the same flag", () -> reset(box, !absolute), 0, "path.len=0", "path.0=-10");
  }

  private static int reset(CapabilitySandbox box, boolean absolute) {
    box.pathReset(absolute);
    return 0;
  }
}
