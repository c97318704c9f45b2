/** The boundary sentences of promise 7, each with a test of its own. */
public final class Boundary07CloseTest implements Doc {
  public static void main(String[] args) {
    for (boolean capMode : Doc.both()) {
      refusesWhatIsNotOpen(capMode);
      closes(capMode);
      closesAnySlot(capMode);
      keepsTheOthers(capMode);
      changesNothingElse(capMode);
    }
    Check.end("Boundary07CloseTest");
  }

  private static void refusesWhatIsNotOpen(boolean capMode) {
    Check.sentence(7, "fd is not open: E_BADFD.");
    Probe p = new Probe(8, 5).inCapMode(capMode);
    for (int fd : Check.andFarOut(-1, FD_GLOBAL, 1, 2, 3, 4, 5, 6, 15, 16)) p.close(fd).is(E_BADFD);
    p.close(0).is(0);
    p.close(0).is(E_BADFD);
    for (int fd = 0; fd < 5; fd++) p.close(fd).is(E_BADFD);
  }

  private static void closes(boolean capMode) {
    Check.sentence(7, "Otherwise the slot is closed (node -1, rights 0, origin -1) and the answer is 0.");
    Probe p = new Probe(8, 4).inCapMode(capMode);
    p.create(0, 1, KIND_DIR).is(1);
    p.open(0, 1).is(1);
    p.derive(1, 7).is(2);
    p.close(2).is(0);
    p.slotIs(2, -1, 0, -1);
    p.close(1).is(0);
    p.slotIs(1, -1, 0, -1);
    p.create(1, 1, KIND_FILE).is(E_BADFD);
    p.unlink(0, 1).is(0);
  }

  private static void closesAnySlot(boolean capMode) {
    Check.sentence(7, "Any open slot may be closed, slot 0 included.");
    for (int size : new int[] {4, 5, 16}) {
      Probe p = new Probe(8, size).inCapMode(capMode);
      for (int fd = 1; fd < size; fd++) p.derive(0, 0).is(fd);
      for (int fd = 0; fd < size; fd++) p.close(fd).is(0);
      p.status(ST_FDS, 0);
      p.open(0).is(E_BADFD);
      if (capMode) p.open(FD_GLOBAL).is(E_CAPMODE);
      else p.open(FD_GLOBAL).is(0);
    }
  }

  private static void keepsTheOthers(boolean capMode) {
    Check.sentence(7, "Other slots are unchanged, including those whose origin is fd.");
    Probe p = new Probe(8, 5).inCapMode(capMode);
    p.create(0, 1, KIND_DIR).is(1);
    p.derive(0, 31).is(1);
    p.derive(1, 15).is(2);
    p.open(1, 1).is(3);
    p.close(1).changes(0, "fd1.node=-1", "fd1.rights=0", "fd1.origin=-1", "fds=3");
    p.slotIs(2, 0, 15, 1);
    p.slotIs(3, 1, 31, 1);
    p.close(0).changes(0, "fd0.node=-1", "fd0.rights=0", "fds=2");
    // The origin is a slot's number only: it stays when the slot is opened again for something else.
    p.derive(3, 1).changes(0, "fd0.node=1", "fd0.rights=1", "fd0.origin=3", "fds=3");
    p.derive(3, 2).changes(1, "fd1.node=1", "fd1.rights=2", "fd1.origin=3", "fds=4");
  }

  private static void changesNothingElse(boolean capMode) {
    Check.sentence(7, "Nodes, the path buffer and the mode are unchanged.");
    Probe p = new Probe(8, 4).link(0, 1, true, 3);
    p.create(0, 2, KIND_FILE).is(2);
    p.open(0, 2).is(1);
    p.inCapMode(capMode).path(true, 1, 2, 3, 4, 5, 6, 7, 8);
    p.close(1).changes(0, "fd1.node=-1", "fd1.rights=0", "fd1.origin=-1", "fds=1");
    p.close(0).changes(0, "fd0.node=-1", "fd0.rights=0", "fds=0");
  }
}
