public final class Promise08CapModeTest {
  public static void main(String[] args) {
    CapabilitySandbox box = new CapabilitySandbox(8, 4);
    Check.make(box, 0, 1, 1);
    Check.link(box, 0, 2, true, 1);
    Check.open(box, 0, 63, 1);
    Check.path(box, true, 1, 16);
    Check.due("openAt(FD_GLOBAL, 63) before", box.openAt(-100, 63), 2);
    box.close(2);
    Check.changes(box, "enterCapMode()", () -> enter(box), 0, "cap=1");
    Check.unchanged(box, "enterCapMode() again", () -> enter(box), 0);
    Check.unchanged(box, "openAt(FD_GLOBAL, 63)", () -> box.openAt(-100, 63), -3);
    Check.unchanged(box, "openAt(0, 63) of an absolute path", () -> box.openAt(0, 63), -8);
    Check.path(box, false, 16);
    Check.unchanged(box, "openAt(1, 63) of ..", () -> box.openAt(1, 63), -8);
    everyCallLeavesItOn(box);
    Check.end("Promise08CapModeTest");
  }

  private static int enter(CapabilitySandbox box) {
    box.enterCapMode();
    return 0;
  }

  private static void everyCallLeavesItOn(CapabilitySandbox box) {
    box.pathReset(true);
    box.pathReset(false);
    box.pathPush(1);
    box.openAt(0, 63);
    box.derive(0, 63);
    box.limit(0, 63);
    box.create(0, 5, 1);
    box.rename(0, 5, 0, 6);
    box.unlink(0, 6);
    for (int fd = 0; fd < 4; fd++) box.close(fd);
    Check.due("status(ST_CAPMODE) after all that", box.status(0), 1);
  }
}
