/** The boundary sentences of promise 12, each with a test of its own. */
public final class Boundary12FdInfoTest implements Doc {
  public static void main(String[] args) {
    refusesWhatIsNoSlot();
    tellsClosedSlots();
    tellsOpenSlots();
    refusesOthers();
    changesNothing();
    Check.end("Boundary12FdInfoTest");
  }

  private static void refusesWhatIsNoSlot() {
    Check.sentence(12, "fd is outside 0..maxFds-1: E_BADFD.");
    for (int size = 4; size <= 16; size++) {
      Probe p = new Probe(8, size);
      for (int fd : Check.andFarOut(-1, FD_GLOBAL, size, size + 1, 17, 32)) {
        for (int what = FI_NODE; what <= FI_ORIGIN; what++) p.fdInfo(fd, what, E_BADFD);
        // The slot is looked at before the field.
        for (int what : new int[] {-1, 3, Integer.MIN_VALUE, Integer.MAX_VALUE}) p.fdInfo(fd, what, E_BADFD);
      }
      p.fdInfo(0, FI_RIGHTS, R_ALL);
      p.fdInfo(size - 1, FI_RIGHTS, 0);
    }
  }

  private static final String FIELDS = "Otherwise FI_NODE, FI_RIGHTS, FI_ORIGIN give the slot's node, rights and origin; "
      + "for a closed slot these are -1, 0 and -1.";

  private static void tellsClosedSlots() {
    Check.sentence(12, FIELDS);
    for (int size : new int[] {4, 16}) {
      Probe p = new Probe(8, size);
      for (int fd = 1; fd < size; fd++) p.slotIs(fd, -1, 0, -1);
      for (int fd = 1; fd < size; fd++) p.derive(fd - 1, 31).is(fd);
      for (int fd = 0; fd < size; fd++) {
        p.close(fd).is(0);
        p.slotIs(fd, -1, 0, -1);
      }
    }
  }

  private static void tellsOpenSlots() {
    Check.sentence(12, FIELDS);
    Probe p = new Probe(8, 16);
    for (int name = 1; name <= 7; name++) p.create(0, name, KIND_DIR).is(name);
    for (int fd = 1; fd < 16; fd++) {
      p.path(false, (fd - 1) % 7 + 1);
      p.openAt(fd % 2 == 0 ? FD_GLOBAL : 0, fd * 4).is(fd);
    }
    for (int fd = 1; fd < 16; fd++) p.slotIs(fd, (fd - 1) % 7 + 1, fd * 4, fd % 2 == 0 ? -1 : 0);
  }

  private static void refusesOthers() {
    Check.sentence(12, "Any other 'what': E_BADARG.");
    Probe p = new Probe(8, 5);
    p.derive(0, 1).is(1);
    for (int fd = 0; fd < 5; fd++) {
      for (int what : Check.andFarOut(-1, 3, 4, 5, 6, 7, 8, 16, FD_GLOBAL)) p.fdInfo(fd, what, E_BADARG);
    }
  }

  // What is asked all the time must come out as what is never asked.
  private static void changesNothing() {
    Check.sentence(12, "`fdInfo(int fd, int what)` answers, without changing anything:");
    Script.makesNoDifference(p -> { }, Boundary12FdInfoTest::ask);
  }

  private static void ask(CapabilitySandbox box) {
    for (int fd = -1; fd <= 6; fd++) {
      for (int what = -1; what <= 3; what++) box.fdInfo(fd, what);
    }
  }
}
