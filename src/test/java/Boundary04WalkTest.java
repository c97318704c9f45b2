/** The boundary sentences of promise 4 about resolution, each with a test of its own. */
public final class Boundary04WalkTest implements Doc {
  public static void main(String[] args) {
    refusesAbsolutePathsInCapMode();
    startsAbsolutePathsAtTheRoot();
    startsEachWalkAnew();
    for (boolean capMode : Doc.both()) {
      startsRelativePathsAtTheStart(capMode);
      passesDots(capMode);
      walksUpToTheParent(capMode);
      refusesMissingNames(capMode);
      walksDown(capMode);
      endsAtAFile(capMode);
      countsEightHops(capMode);
      countsHopsOfEmptyLinks(capMode);
      followsRelativeLinksInTheirDirectory(capMode);
      putsTargetsInFront(capMode);
      putsTheGreatestTargetsInFront(capMode);
      endsWhenNothingIsPending(capMode);
      answersTheFailure(capMode);
      takesAnEmptyPathAsTheStart(capMode);
      neverOpensALink(capMode);
    }
    refusesToLeaveInCapMode();
    staysAtTheRoot();
    refusesAbsoluteLinksInCapMode();
    followsAbsoluteLinks();
    Check.end("Boundary04WalkTest");
  }

  private static final String ABSOLUTE = "If the path is absolute: if cap is true, fail with E_ESCAPE; otherwise cur = node 0.";

  private static void refusesAbsolutePathsInCapMode() {
    Check.sentence(4, ABSOLUTE);
    Tree tree = new Tree().inCapMode(true);
    for (int fd = 0; fd <= 2; fd++) {
      tree.failsAbsolute(E_ESCAPE, fd);
      tree.failsAbsolute(E_ESCAPE, fd, DOT);
      tree.failsAbsolute(E_ESCAPE, fd, 1);
      tree.failsAbsolute(E_ESCAPE, fd, 14);
      tree.failsAbsolute(E_ESCAPE, fd, 4, DOT);
    }
  }

  private static void startsAbsolutePathsAtTheRoot() {
    Check.sentence(4, ABSOLUTE);
    Tree tree = new Tree();
    for (int fd : new int[] {FD_GLOBAL, 0, 1, 2}) {
      tree.opensAbsolute(0, fd);
      tree.opensAbsolute(2, fd, 1, 2);
      tree.opensAbsolute(4, fd, 4);
      tree.failsAbsolute(E_NOENT, fd, 2);
    }
  }

  private static void startsRelativePathsAtTheStart(boolean capMode) {
    Check.sentence(4, "If the path is not absolute, cur = S.");
    Tree tree = new Tree().inCapMode(capMode);
    tree.opens(4, 0, 4);
    tree.opens(2, 1, 2);
    tree.opens(3, 2, 3);
    tree.fails(E_NOENT, 1, 4);
    tree.fails(E_NOENT, 2, 1);
  }

  private static void startsEachWalkAnew() {
    Check.sentence(4, "Set depth = 0 and hops = 0.");
    Tree tree = new Tree().link(1, 6, false).link(1, 11, false, 11).inCapMode(true);
    for (int i = 0; i < 3; i++) {
      tree.opens(1, 1, 6, 6, 6, 6, 6, 6, 6, 6);
      tree.fails(E_LOOP, 1, 11);
      tree.opens(2, 0, 1, 2);
      tree.fails(E_ESCAPE, 1, UP);
      tree.fails(E_NOENT, 0, 1, 2, 14);
      tree.fails(E_ESCAPE, 0, UP);
    }
  }

  private static void passesDots(boolean capMode) {
    Check.sentence(4, "c = 0: nothing happens.");
    Tree tree = new Tree().link(1, 6, false, DOT, DOT, DOT, DOT).inCapMode(capMode);
    tree.opens(1, 1, DOT);
    tree.opens(1, 1, DOT, DOT, DOT, DOT, DOT, DOT, DOT, DOT);
    tree.opens(3, 1, DOT, 2, DOT, DOT, 3);
    tree.opens(1, 1, 6);
    tree.opens(1, 1, 6, 6, 6, 6, 6, 6, 6, 6);
    if (capMode) tree.fails(E_ESCAPE, 1, DOT, UP);
    else tree.opens(0, 1, DOT, UP);
  }

  private static void refusesToLeaveInCapMode() {
    Check.sentence(4, "c = 16: if cap is true and depth == 0, fail with E_ESCAPE.");
    Tree tree = new Tree().link(1, 6, false, UP).link(1, 7, false, 2).link(1, 8, false, UP, 1).inCapMode(true);
    for (int fd = 0; fd <= 2; fd++) {
      tree.fails(E_ESCAPE, fd, UP);
      tree.fails(E_ESCAPE, fd, UP, UP);
      tree.fails(E_ESCAPE, fd, UP, 1);
      tree.fails(E_ESCAPE, fd, UP, 14);
    }
    tree.opens(1, 1, 2, UP);
    tree.fails(E_ESCAPE, 1, 2, UP, UP);
    tree.fails(E_ESCAPE, 1, 2, UP, UP, 1, 2);
    tree.fails(E_ESCAPE, 1, 2, UP, 5, UP, UP);
    tree.fails(E_ESCAPE, 1, 6);
    tree.fails(E_ESCAPE, 1, 8);
    tree.opens(1, 0, 1, 8);
    tree.opens(1, 1, 7, UP);
    tree.fails(E_ESCAPE, 1, 7, UP, UP);
    tree.opens(0, 0, 1, 6);
    tree.fails(E_ESCAPE, 0, 1, 6, UP);
  }

  private static void walksUpToTheParent(boolean capMode) {
    Check.sentence(4, "Otherwise cur = parent of cur (the parent of node 0 is node 0) and depth = depth - 1.");
    Tree tree = new Tree().inCapMode(capMode);
    tree.opens(0, 0, 1, UP);
    tree.opens(1, 0, 1, 2, UP);
    tree.opens(0, 0, 1, 2, UP, UP);
    tree.opens(5, 0, 1, 2, UP, 5);
    tree.opens(4, 0, 1, 2, UP, UP, 4);
    tree.p.rename(1, 2, 0, 9).is(0);
    tree.opens(0, 0, 9, UP);
    tree.opens(4, 0, 9, UP, 4);
  }

  private static void staysAtTheRoot() {
    Check.sentence(4, "When cap is false, depth may become negative and '..' at node 0 stays at node 0.");
    Tree tree = new Tree().link(0, 6, true, UP, UP, 1);
    tree.opens(0, 0, UP);
    tree.opens(0, FD_GLOBAL, UP, UP, UP, UP, UP, UP, UP, UP);
    tree.opensAbsolute(0, 1, UP, UP);
    tree.opens(1, 0, UP, UP, UP, 1);
    tree.opens(0, 2, UP, UP, UP, UP);
    tree.opens(3, 2, UP, UP, UP, 1, 2, 3);
    tree.opens(2, 2, UP, 2);
    tree.opens(1, 0, 6);
  }

  private static void refusesMissingNames(boolean capMode) {
    Check.sentence(4, "If there is none, fail with E_NOENT.");
    Tree tree = new Tree().link(1, 6, false, 14).inCapMode(capMode);
    for (int name : new int[] {2, 3, 5, 6, 7, 15}) {
      tree.fails(E_NOENT, 0, name);
      tree.fails(E_NOENT, 0, name, DOT);
      tree.fails(E_NOENT, 0, name, UP, 1);
    }
    tree.fails(E_NOENT, 1, 1);
    tree.fails(E_NOENT, 1, 2, 2);
    tree.fails(E_NOENT, 1, 6);
    tree.fails(E_NOENT, 1, 14, UP, UP, UP);
    for (int name = 1; name <= 15; name++) new Probe(8, 4).inCapMode(capMode).open(0, name).is(E_NOENT);
    tree.p.unlink(1, 5).is(0);
    tree.fails(E_NOENT, 1, 5);
    tree.fails(E_NOENT, 0, 5);
  }

  private static void walksDown(boolean capMode) {
    Check.sentence(4, "If n is a DIR: cur = n and depth = depth + 1.");
    Probe p = new Probe(16, 4);
    p.derive(0, R_ALL).is(1);
    for (int node = 1; node <= 8; node++) {
      p.create(1, 16 - node, KIND_DIR).is(node);
      p.open(1, 16 - node).is(2);
      p.close(1).is(0);
      p.derive(2, R_ALL).is(1);
      p.close(2).is(0);
    }
    p.inCapMode(capMode);
    p.open(0, 15, 14, 13, 12, 11, 10, 9, 8).is(2);
    p.slotIs(2, 8, R_ALL, 0);
    p.open(0, 15, 14, 13, 12, UP, UP, UP, UP).is(3);
    p.slotIs(3, 0, R_ALL, 0);
  }

  private static void endsAtAFile(boolean capMode) {
    Check.sentence(4, "If n is a FILE: if pending is not empty, fail with E_NOTDIR; "
        + "otherwise the result is n and resolution stops.");
    Tree tree = new Tree().link(1, 6, false, 2, 3).link(1, 7, false, 2, 3, DOT).link(1, 8, false, 6, UP).inCapMode(capMode);
    tree.opens(4, 0, 4);
    tree.opens(3, 2, 3);
    tree.opens(3, 0, 1, 2, 3);
    for (int next : new int[] {DOT, UP, 1, 3, 4, 14}) {
      tree.fails(E_NOTDIR, 0, 4, next);
      tree.fails(E_NOTDIR, 2, 3, next);
      tree.fails(E_NOTDIR, 1, 6, next);
    }
    tree.fails(E_NOTDIR, 0, 4, UP, UP, UP, UP, UP, UP, UP);
    tree.opens(3, 1, 6);
    tree.fails(E_NOTDIR, 1, 7);
    tree.fails(E_NOTDIR, 1, 8);
  }

  private static final String HOPS = "If hops > MAX_HOPS, fail with E_LOOP.";

  /** The links 2, 3 and 5 to 11 of the root lead to its directory 1 over 1 to 9 hops; 12, and 13 with 14, are rings. */
  private static Tree chain(boolean capMode) {
    Tree tree = new Tree();
    tree.link(0, 2, false, 1);
    tree.link(0, 3, false, 2);
    tree.link(0, 5, false, 3);
    for (int name = 6; name <= 10; name++) tree.link(0, name, false, name - 1);
    tree.link(0, 11, false, 10);
    return tree.link(0, 12, false, 12).link(0, 13, false, 14).link(0, 14, false, 13).inCapMode(capMode);
  }

  private static void countsEightHops(boolean capMode) {
    Check.sentence(4, HOPS);
    Tree tree = chain(capMode);
    tree.opens(1, 0, 10);
    tree.opens(2, 0, 10, 2);
    tree.fails(E_LOOP, 0, 11);
    tree.fails(E_LOOP, 0, 11, 14);
    tree.fails(E_LOOP, 0, 12);
    tree.fails(E_LOOP, 0, 13);
    tree.fails(E_LOOP, 0, 14, UP, UP);
    tree.opens(1, 0, 9, UP, 2);
    tree.fails(E_LOOP, 0, 9, UP, 3);
    tree.fails(E_LOOP, 0, 10, UP, 2);
  }

  private static void countsHopsOfEmptyLinks(boolean capMode) {
    Check.sentence(4, HOPS);
    Tree tree = new Tree().link(0, 6, false).link(0, 7, false, 6, 6, 6, 6).link(0, 8, true).inCapMode(capMode);
    tree.opens(0, 0, 6, 6, 6, 6, 6, 6, 6, 6);
    tree.opens(0, 0, 7, 6, 6, 6);
    tree.fails(E_LOOP, 0, 7, 6, 6, 6, 6);
    tree.fails(E_LOOP, 0, 6, 6, 6, 6, 7);
    tree.fails(E_LOOP, 0, 7, 7);
    // The ninth link is a loop before its flag is looked at.
    tree.fails(E_LOOP, 0, 7, 6, 6, 6, 8);
    tree.fails(capMode ? E_ESCAPE : E_LOOP, 0, 7, 6, 6, 8, 6);
  }

  private static final String ABSOLUTE_LINK =
      "If n's absolute flag is set: if cap is true, fail with E_ESCAPE; otherwise cur = node 0 and depth = 0.";

  private static void refusesAbsoluteLinksInCapMode() {
    Check.sentence(4, ABSOLUTE_LINK);
    Tree tree = new Tree().link(0, 6, true, 1).link(1, 7, true).link(1, 8, true, 1, 2).link(1, 9, true, 14).inCapMode(true);
    tree.fails(E_ESCAPE, 0, 6);
    tree.fails(E_ESCAPE, 0, 6, 2);
    tree.fails(E_ESCAPE, 0, 6, 14);
    for (int name = 7; name <= 9; name++) {
      tree.fails(E_ESCAPE, 1, name);
      tree.fails(E_ESCAPE, 0, 1, name);
      tree.fails(E_ESCAPE, 0, 1, name, DOT);
    }
  }

  private static void followsAbsoluteLinks() {
    Check.sentence(4, ABSOLUTE_LINK);
    Tree tree = new Tree().link(1, 7, true).link(1, 8, true, 1, 2).link(2, 9, true, 4).link(2, 10, true, UP, 1);
    tree.opens(0, 1, 7);
    tree.opens(0, 1, 7, UP);
    tree.opens(4, 1, 7, 4);
    tree.opens(2, 1, 8);
    tree.opens(3, 1, 8, 3);
    tree.opens(1, 1, 8, UP);
    tree.opens(4, 2, 9);
    tree.opens(4, FD_GLOBAL, 1, 2, 9);
    tree.fails(E_NOTDIR, 2, 9, UP);
    tree.opens(1, 2, 10);
    tree.fails(E_NOENT, 1, 7, 2);
  }

  private static void followsRelativeLinksInTheirDirectory(boolean capMode) {
    Check.sentence(4, "If the flag is not set, cur and depth stay as they are, "
        + "so a relative target is read from the directory that holds the link.");
    Tree tree = new Tree().link(2, 6, false, 3).link(2, 7, false).link(2, 8, false, UP, 5).link(2, 9, false, UP, UP, 4);
    tree.inCapMode(capMode);
    tree.opens(3, 0, 1, 2, 6);
    tree.opens(3, 2, 6);
    tree.opens(2, 2, 7);
    tree.opens(2, 1, 2, 7);
    tree.opens(1, 1, 2, 7, UP);
    tree.opens(5, 1, 2, 8);
    tree.opens(4, 0, 1, 2, 9);
    if (capMode) {
      tree.fails(E_ESCAPE, 2, 7, UP);
      tree.fails(E_ESCAPE, 2, 8);
      tree.fails(E_ESCAPE, 1, 2, 9);
    } else {
      tree.opens(1, 2, 7, UP);
      tree.opens(5, 2, 8);
      tree.opens(4, 1, 2, 9);
    }
  }

  private static void putsTargetsInFront(boolean capMode) {
    Check.sentence(4, "In both cases n's components are then put, in order, in front of pending.");
    Tree tree = new Tree().link(0, 6, false, 1, 2).link(0, 7, false, 6, UP, 5, DOT).link(0, 8, false, 7, UP, 6, 3);
    tree.link(0, 9, true, 1, 2).inCapMode(capMode);
    tree.opens(3, 0, 6, 3);
    tree.opens(5, 0, 6, UP, 5);
    tree.opens(5, 0, 7);
    tree.opens(2, 0, 7, UP, 2);
    tree.fails(E_NOENT, 0, 8);
    tree.opens(3, 0, 7, UP, UP, 6, 3);
    if (capMode) tree.fails(E_ESCAPE, 0, 9, 3);
    else tree.opens(3, 0, 9, 3);
  }

  /** Eight hops whose targets of four stand in front of seven components: as much as can ever be pending. */
  private static void putsTheGreatestTargetsInFront(boolean capMode) {
    Check.sentence(4, "In both cases n's components are then put, in order, in front of pending.");
    Tree tree = new Tree().link(0, 6, false, 1, 2, UP, UP);
    for (int name = 7; name <= 14; name++) tree.link(0, name, false, name - 1, 1, UP, DOT);
    tree.inCapMode(capMode);
    tree.opens(3, 0, 13, 1, UP, DOT, DOT, 1, 2, 3);
    tree.opens(0, 0, 13, 1, 2, UP, UP, 1, UP, DOT);
    tree.fails(E_NOENT, 0, 13, DOT, DOT, DOT, DOT, DOT, DOT, 15);
    tree.fails(E_NOTDIR, 0, 13, DOT, DOT, DOT, DOT, DOT, 4, DOT);
    tree.fails(E_LOOP, 0, 14, 1, UP, DOT, DOT, 1, 2, 3);
    tree.opens(1, 0, 6, 6, 6, 6, 6, 6, 6, 1);
    tree.opens(0, 0, 6, 6, 6, 6, 6, 6, 6, 6);
  }

  private static void endsWhenNothingIsPending(boolean capMode) {
    Check.sentence(4, "When pending is empty, the result is cur.");
    Tree tree = new Tree().link(1, 6, false).link(1, 7, false, 2, UP).inCapMode(capMode);
    tree.opens(1, 0, 1);
    tree.opens(1, 0, 1, DOT);
    tree.opens(1, 1, 6);
    tree.opens(1, 1, 7);
    tree.opens(2, 1, 7, 2);
  }

  private static void answersTheFailure(boolean capMode) {
    Check.sentence(4, "A failure is the answer.");
    Tree tree = new Tree().link(1, 6, false, 6).inCapMode(capMode);
    // The first failure on the way ends the walk, whatever would fail behind it.
    tree.fails(E_NOENT, 0, 14, 4, 1);
    tree.fails(E_NOTDIR, 0, 4, 14);
    tree.fails(E_LOOP, 1, 6, 14);
    if (capMode) tree.fails(E_ESCAPE, 1, UP, 4, 14);
    else tree.fails(E_NOTDIR, 1, UP, 4, 14);
    tree.p.status(ST_FDS, 3);
  }

  private static void takesAnEmptyPathAsTheStart(boolean capMode) {
    Check.sentence(4, "An empty path resolves to the start itself (node 0 when absolute and cap is false).");
    Tree tree = new Tree().inCapMode(capMode);
    for (int fd = 0; fd <= 2; fd++) {
      tree.opens(fd, fd);
      if (capMode) tree.failsAbsolute(E_ESCAPE, fd);
      else tree.opensAbsolute(0, fd);
    }
    if (!capMode) tree.opens(0, FD_GLOBAL);
    if (!capMode) tree.opensAbsolute(0, FD_GLOBAL);
  }

  private static void neverOpensALink(boolean capMode) {
    Check.sentence(4, "The result is never a LINK: it is a DIR or a FILE.");
    Tree tree = new Tree().link(1, 6, false, 2).link(1, 7, false, 6).link(1, 8, false, 2, 3).link(1, 9, false, 14);
    tree.link(1, 10, false, 9).inCapMode(capMode);
    tree.opens(2, 1, 6);
    tree.opens(2, 1, 7);
    tree.opens(3, 1, 8);
    tree.fails(E_NOENT, 1, 9);
    tree.fails(E_NOENT, 1, 10);
  }
}
