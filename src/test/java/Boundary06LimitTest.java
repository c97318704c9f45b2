/** The boundary sentences of promise 6, each with a test of its own. */
public final class Boundary06LimitTest implements Doc {
  public static void main(String[] args) {
    for (boolean capMode : Doc.both()) {
      refusesWhatIsNotOpen(capMode);
      answersTheNewRights(capMode);
      neverAdds(capMode);
      changesNothingElse(capMode);
    }
    Check.end("Boundary06LimitTest");
  }

  private static void refusesWhatIsNotOpen(boolean capMode) {
    Check.sentence(6, "fd is not open: E_BADFD.");
    Probe p = new Probe(8, 5).inCapMode(capMode);
    for (int fd : Check.andFarOut(-1, FD_GLOBAL, 1, 2, 3, 4, 5, 6, 15, 16)) {
      for (int rights : new int[] {0, R_ALL, -1}) p.limit(fd, rights).is(E_BADFD);
    }
    p.close(0).is(0);
    p.limit(0, R_ALL).is(E_BADFD);
    p.slotIs(0, -1, 0, -1);
  }

  private static void answersTheNewRights(boolean capMode) {
    Check.sentence(6, "Otherwise fd's rights become rights & fd's rights, and the new rights are answered "
        + "(a value in 0..63, which may be 0).");
    for (int first = 0; first <= R_ALL; first++) {
      for (int second = 0; second <= R_ALL; second += 7) {
        Probe p = new Probe(8, 4).inCapMode(capMode);
        p.limit(0, first).is(first);
        p.limit(0, second).is(first & second);
        p.slotIs(0, 0, first & second, -1);
      }
    }
    Probe p = new Probe(8, 16).inCapMode(capMode);
    for (int fd = 1; fd < 16; fd++) p.derive(0, R_ALL).is(fd);
    p.limit(15, 0).is(0);
    p.limit(15, R_ALL).is(0);
  }

  private static void neverAdds(boolean capMode) {
    Check.sentence(6, "The rights can only lose bits, never gain them; "
        + "for example rights = -1 or R_ALL leaves them as they are.");
    for (int rights = 0; rights <= R_ALL; rights++) {
      Probe p = new Probe(8, 4).inCapMode(capMode);
      p.limit(0, rights).is(rights);
      p.limit(0, -1).changes(rights);
      p.limit(0, R_ALL).changes(rights);
      p.limit(0, Integer.MAX_VALUE).changes(rights);
    }
    for (int rights : Check.andFarOut(-1, -64, 64, 127)) {
      new Probe(8, 4).inCapMode(capMode).limit(0, rights).is(rights & R_ALL);
    }
  }

  private static void changesNothingElse(boolean capMode) {
    Check.sentence(6, "The slot's node and origin, all other slots, the nodes, the path buffer and the mode are unchanged.");
    Probe p = new Probe(8, 4).link(0, 1, true, 3).path(true, 1, 2, 3, 4, 5, 6, 7, 8);
    p.create(0, 2, KIND_DIR).is(2);
    p.path(false, 2);
    p.openAt(0, R_ALL).is(1);
    p.derive(1, R_ALL).is(2);
    p.inCapMode(capMode);
    p.limit(1, 20).changes(20, "fd1.rights=20");
    p.limit(0, 0).changes(0, "fd0.rights=0");
    p.limit(2, 1).changes(1, "fd2.rights=1");
  }
}
