public final class Promise04OpenAtTest {
  private static final int GLOBAL = -100;

  public static void main(String[] args) {
    starts();
    refusesStarts();
    walksNames();
    walksUp();
    staysInsideInCapMode();
    followsLinks();
    followsLinksInCapMode();
    countsHops();
    walksTheLongestPath();
    refusesWhenFull();
    meetsRights();
    Check.end("Promise04OpenAtTest");
  }

  /**
   * Nodes 1 = DIR /1, 2 = DIR /1/2, 3 = FILE /1/2/3, 4 = FILE /4, 5 = DIR /1/5.
   * Slot 1 holds node 1.
   */
  private static CapabilitySandbox box() {
    CapabilitySandbox box = new CapabilitySandbox(32, 4);
    Check.make(box, 0, 1, 1);
    Check.open(box, 0, 63, 1);
    Check.make(box, 1, 2, 1);
    int inner = Check.open(box, 1, 63, 2);
    Check.make(box, inner, 3, 2);
    box.close(inner);
    Check.make(box, 0, 4, 2);
    Check.make(box, 1, 5, 1);
    return box;
  }

  private static String call(int fd, boolean absolute, int... components) {
    StringBuilder text = new StringBuilder("openAt(" + fd + ", 63) of " + (absolute ? "/" : ""));
    for (int component : components) text.append(component == 0 ? "." : component == 16 ? ".." : "" + component).append("/");
    return text.toString();
  }

  /** The path opens this node as the lowest closed slot, which is 2; then the slot is closed again. */
  private static void opens(CapabilitySandbox box, int node, int fd, boolean absolute, int... components) {
    Check.path(box, absolute, components);
    String call = call(fd, absolute, components);
    String[] changes = fd == GLOBAL
        ? new String[] {"fd2.node=" + node, "fd2.rights=63", "fds=3"}
        : new String[] {"fd2.node=" + node, "fd2.rights=63", "fd2.origin=" + fd, "fds=3"};
    Check.changes(box, call, () -> box.openAt(fd, 63), 2, changes);
    box.close(2);
  }

  private static void fails(CapabilitySandbox box, int error, int fd, boolean absolute, int... components) {
    Check.path(box, absolute, components);
    Check.unchanged(box, call(fd, absolute, components), () -> box.openAt(fd, 63), error);
  }

  private static void starts() {
    CapabilitySandbox box = box();
    opens(box, 0, 0, false);
    opens(box, 1, 1, false);
    opens(box, 0, GLOBAL, false);
    opens(box, 0, 1, true);
    opens(box, 0, GLOBAL, true);
    opens(box, 1, GLOBAL, false, 1);
    opens(box, 4, 1, true, 4);
    opens(box, 2, 1, false, 2);
    fails(box, -5, 1, false, 4);
    box.close(0);
    Check.path(box, false, 1, 2);
    Check.changes(box, "openAt(FD_GLOBAL, 63) into slot 0", () -> box.openAt(GLOBAL, 63), 0,
        "fd0.node=2", "fd0.rights=63", "fds=2");
    box.enterCapMode();
    opens(box, 1, 1, false);
    fails(box, -3, GLOBAL, false);
    fails(box, -3, GLOBAL, true);
    fails(box, -3, GLOBAL, false, 14);
    fails(box, -8, 1, true);
    fails(box, -8, 1, true, 14);
    fails(box, -8, 0, true, 1);
  }

  private static void refusesStarts() {
    for (boolean capMode : new boolean[] {false, true}) {
      CapabilitySandbox box = box();
      int file = Check.open(box, 0, 0, 4);
      int bare = box.derive(0, 63 - 4);
      if (capMode) box.enterCapMode();
      for (boolean absolute : new boolean[] {false, true}) {
        fails(box, -4, file, absolute);
        fails(box, -4, file, absolute, 14);
        fails(box, -2, bare, absolute);
        fails(box, -2, bare, absolute, 14);
        for (int fd : Check.andFarOut(-1, 4, 5, 15, 16)) fails(box, -1, fd, absolute, 14);
      }
      box.close(bare);
      fails(box, -1, bare, false, 1);
      box.close(1);
      fails(box, -1, 1, false);
      int lookup = box.derive(0, 4);
      Check.path(box, false, 1);
      Check.changes(box, "openAt with R_LOOKUP alone", () -> box.openAt(lookup, 63), 3,
          "fd3.node=1", "fd3.rights=4", "fd3.origin=" + lookup, "fds=4");
    }
  }

  private static void walksNames() {
    for (boolean capMode : new boolean[] {false, true}) {
      CapabilitySandbox box = box();
      if (capMode) box.enterCapMode();
      opens(box, 3, 0, false, 1, 2, 3);
      opens(box, 3, 0, false, 0, 1, 0, 0, 2, 0, 3);
      opens(box, 1, 0, false, 1, 0);
      opens(box, 4, 0, false, 4);
      opens(box, 0, 0, false, 0, 0, 0, 0, 0, 0, 0, 0);
      fails(box, -5, 0, false, 2);
      fails(box, -5, 0, false, 1, 3);
      fails(box, -5, 0, false, 15, 4, 1);
      fails(box, -4, 0, false, 4, 0);
      fails(box, -4, 0, false, 4, 16);
      fails(box, -4, 0, false, 4, 1);
      fails(box, -4, 0, false, 1, 2, 3, 0);
      opens(box, 0, 0, false, 1, 16);
      opens(box, 5, 0, false, 1, 2, 16, 5);
      opens(box, 4, 0, false, 1, 2, 16, 16, 4);
    }
  }

  private static void walksUp() {
    CapabilitySandbox box = box();
    opens(box, 0, 0, false, 16);
    opens(box, 0, 0, false, 16, 16, 16);
    opens(box, 1, 0, false, 16, 16, 1);
    opens(box, 0, 1, false, 16);
    opens(box, 4, 1, false, 16, 4);
    opens(box, 2, 1, false, 16, 16, 1, 2);
    opens(box, 0, GLOBAL, true, 16, 16);
    box.close(1);
    Check.open(box, 0, 63, 1, 2);
    opens(box, 1, 1, false, 16);
    opens(box, 5, 1, false, 16, 5);
    opens(box, 0, 1, false, 16, 16);
  }

  private static void staysInsideInCapMode() {
    CapabilitySandbox box = box();
    box.enterCapMode();
    for (int fd = 0; fd <= 1; fd++) {
      fails(box, -8, fd, false, 16);
      fails(box, -8, fd, false, 0, 16);
      fails(box, -8, fd, false, 16, 14);
    }
    fails(box, -8, 1, false, 16, 1);
    fails(box, -8, 1, false, 2, 16, 16, 1, 2);
    opens(box, 1, 1, false, 2, 16);
    opens(box, 1, 1, false, 2, 16, 5, 16, 2, 16);
    opens(box, 5, 1, false, 2, 16, 5);
    fails(box, -8, 1, false, 2, 16, 5, 16, 2, 16, 16);
    fails(box, -5, 1, false, 14, 16, 16);
  }

  /** More nodes below /1: 6 to 13 are links with the names 6 to 13. */
  private static CapabilitySandbox linkedBox() {
    CapabilitySandbox box = box();
    Check.link(box, 1, 6, false, 2);
    Check.link(box, 1, 7, false, 2, 3);
    Check.link(box, 1, 8, true, 4);
    Check.link(box, 1, 9, true);
    Check.link(box, 1, 10, false);
    Check.link(box, 1, 11, false, 16, 4);
    Check.link(box, 1, 12, false, 14);
    Check.link(box, 1, 13, false, 6, 0, 16, 10);
    return box;
  }

  private static void followsLinks() {
    CapabilitySandbox box = linkedBox();
    opens(box, 2, 1, false, 6);
    opens(box, 2, 0, false, 1, 6);
    opens(box, 3, 1, false, 6, 3);
    opens(box, 3, 1, false, 7);
    fails(box, -4, 1, false, 7, 0);
    fails(box, -4, 1, false, 7, 14);
    opens(box, 4, 1, false, 8);
    fails(box, -4, 1, false, 8, 0);
    opens(box, 0, 1, false, 9);
    opens(box, 2, 1, false, 9, 1, 2);
    opens(box, 1, 1, false, 10);
    opens(box, 5, 1, false, 10, 5);
    opens(box, 4, 1, false, 11);
    opens(box, 4, 0, false, 1, 11);
    fails(box, -5, 1, false, 12);
    fails(box, -5, 1, false, 12, 16);
    opens(box, 1, 1, false, 13);
    opens(box, 2, 1, false, 13, 2);
    opens(box, 1, 1, false, 6, 16);
    opens(box, 0, 1, false, 9, 16, 16);
    opens(box, 0, 1, false, 10, 16);
  }

  private static void followsLinksInCapMode() {
    CapabilitySandbox box = linkedBox();
    box.enterCapMode();
    opens(box, 2, 1, false, 6);
    opens(box, 3, 1, false, 6, 3);
    opens(box, 3, 1, false, 7);
    opens(box, 1, 1, false, 6, 16);
    fails(box, -8, 1, false, 6, 16, 16);
    fails(box, -8, 1, false, 8);
    fails(box, -8, 0, false, 1, 8);
    fails(box, -8, 1, false, 9);
    opens(box, 1, 1, false, 10);
    fails(box, -8, 1, false, 10, 16);
    fails(box, -8, 1, false, 11);
    opens(box, 4, 0, false, 1, 11);
    opens(box, 1, 1, false, 13);
    fails(box, -8, 1, false, 13, 16);
    opens(box, 0, 0, false, 1, 13, 16);
    fails(box, -8, 0, false, 1, 13, 16, 16);
  }

  private static void countsHops() {
    for (boolean capMode : new boolean[] {false, true}) {
      CapabilitySandbox box = new CapabilitySandbox(32, 4);
      Check.make(box, 0, 1, 1);
      box.derive(0, 63);
      Check.link(box, 0, 2, false, 1);
      for (int name = 3; name <= 10; name++) Check.link(box, 0, name, false, name - 1);
      Check.link(box, 0, 11, false, 11);
      Check.link(box, 0, 12, false);
      Check.link(box, 0, 13, false, 12, 12, 12, 12);
      Check.link(box, 0, 14, true, 14);
      if (capMode) box.enterCapMode();
      opens(box, 1, 0, false, 9);
      fails(box, -7, 0, false, 10);
      fails(box, -7, 0, false, 11);
      fails(box, -7, 0, false, 11, 16);
      fails(box, capMode ? -8 : -7, 0, false, 14);
      opens(box, 0, 0, false, 12, 12, 12, 12, 12, 12, 12, 12);
      opens(box, 0, 0, false, 13, 12, 12, 12);
      fails(box, -7, 0, false, 13, 12, 12, 12, 12);
      fails(box, -7, 0, false, 13, 13);
      // The ninth link is refused as a loop, whatever it holds.
      fails(box, -7, 0, false, 13, 12, 12, 12, 14);
    }
  }

  /** Eight hops of four components each, behind each other and within each other. */
  private static void walksTheLongestPath() {
    for (boolean capMode : new boolean[] {false, true}) {
      CapabilitySandbox box = new CapabilitySandbox(32, 4);
      Check.make(box, 0, 1, 1);
      box.derive(0, 63);
      Check.link(box, 0, 2, false, 1, 16, 0, 1);
      Check.link(box, 0, 3, false, 1, 16, 1, 16);
      Check.link(box, 0, 4, false, 3, 1, 16, 0);
      for (int name = 5; name <= 11; name++) Check.link(box, 0, name, false, name - 1, 1, 16, 0);
      Check.open(box, 0, 63, 1);
      Check.link(box, 2, 1, false, 16, 1, 16, 1);
      box.close(2);
      if (capMode) box.enterCapMode();
      opens(box, 0, 0, false, 3, 3, 3, 3, 3, 3, 3, 3);
      opens(box, 1, 0, false, 3, 3, 3, 3, 3, 3, 3, 2);
      opens(box, 0, 0, false, 10, 0, 1, 16, 0, 1, 0, 16);
      opens(box, 1, 0, false, 10, 0, 1, 16, 0, 1, 0, 0);
      fails(box, -7, 0, false, 11, 0, 1, 16, 0, 1, 0, 16);
      opens(box, 1, 0, false, 2, 1, 1, 1, 1, 1, 1, 1);
    }
  }

  private static void refusesWhenFull() {
    CapabilitySandbox box = box();
    int file = Check.open(box, 0, 0, 4);
    int bare = box.derive(0, 0);
    fails(box, -9, 0, false, 1);
    fails(box, -9, 0, false);
    fails(box, -9, GLOBAL, true, 1, 2, 3);
    fails(box, -5, 0, false, 14);
    fails(box, -4, 0, false, 4, 0);
    fails(box, -4, file, false);
    fails(box, -2, bare, false);
    fails(box, -1, 4, false);
    box.enterCapMode();
    fails(box, -3, GLOBAL, false);
    fails(box, -8, 0, true);
    fails(box, -8, 0, false, 16);
    fails(box, -9, 0, false, 1);
    box.close(1);
    Check.path(box, false, 1, 2);
    Check.changes(box, "openAt into the gap", () -> box.openAt(0, 63), 1,
        "fd1.node=2", "fd1.rights=63", "fd1.origin=0", "fds=4");
  }

  private static void meetsRights() {
    for (int source = 0; source <= 63; source++) {
      for (int rights : Check.andFarOut(-1, 0, 1, 4, 21, 42, 63, 64, 127)) {
        CapabilitySandbox box = box();
        box.limit(1, source);
        Check.path(box, false, 2);
        int due = (source & 4) == 0 ? -2 : 2;
        Check.due("openAt(1, " + rights + ") with rights " + source, box.openAt(1, rights), due);
        if (due > 0) Check.due("its rights", box.fdInfo(2, 1), source & rights);
      }
    }
    for (int rights : Check.andFarOut(-1, 0, 1, 21, 63, 64)) {
      CapabilitySandbox box = box();
      box.limit(0, 0);
      Check.path(box, false, 1);
      Check.due("openAt(FD_GLOBAL, " + rights + ")", box.openAt(GLOBAL, rights), 2);
      Check.due("its rights", box.fdInfo(2, 1), rights & 63);
      Check.due("its origin", box.fdInfo(2, 2), -1);
    }
  }
}
