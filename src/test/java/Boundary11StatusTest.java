/** The boundary sentences of promise 11, each with a test of its own. */
public final class Boundary11StatusTest implements Doc {
  public static void main(String[] args) {
    tellsTheMode();
    tellsThePath();
    countsNodes();
    countsSlots();
    tellsTheSizes();
    refusesOthers();
    changesNothing();
    Check.end("Boundary11StatusTest");
  }

  private static void tellsTheMode() {
    Check.sentence(11, "ST_CAPMODE: 1 if capability mode is on, else 0.");
    Probe p = new Probe(8, 4);
    p.status(ST_CAPMODE, 0);
    p.enterCapMode().is(0);
    p.status(ST_CAPMODE, 1);
    p.enterCapMode().is(0);
    p.status(ST_CAPMODE, 1);
  }

  private static void tellsThePath() {
    for (boolean absolute : Doc.both()) {
      Probe p = new Probe(8, 4).path(absolute);
      for (int length = 0; length <= 8; length++) {
        Check.sentence(11, "ST_PATHLEN: the number of components in the path buffer.");
        p.status(ST_PATHLEN, length);
        Check.sentence(11, "ST_PATHABS: 1 if the buffer is absolute, else 0.");
        p.status(ST_PATHABS, absolute ? 1 : 0);
        Check.sentence(11, "ST_PATHCOMP + i, for 0 <= i < path length: component i.");
        for (int i = 0; i < length; i++) p.status(ST_PATHCOMP + i, 16 - 2 * i);
        p.box.pathPush(16 - 2 * length);
      }
      p.pathReset(absolute).is(0);
      for (int i = 0; i < 8; i++) p.status(ST_PATHCOMP + i, E_BADARG);
    }
  }

  private static void countsNodes() {
    Check.sentence(11, "ST_NODES: the number of non-FREE nodes (node 0 included, so at least 1).");
    Probe p = new Probe(8, 4);
    for (int name = 1; name <= 7; name++) {
      p.status(ST_NODES, name);
      p.create(0, name, 1 + name % 3).is(name);
    }
    p.status(ST_NODES, 8);
    p.create(0, 8, KIND_FILE).is(E_FULL);
    p.status(ST_NODES, 8);
    for (int name = 1; name <= 7; name++) p.unlink(0, name).is(0);
    p.status(ST_NODES, 1);
    p.close(0).is(0);
    p.status(ST_NODES, 1);
  }

  private static void countsSlots() {
    Check.sentence(11, "ST_FDS: the number of open slots.");
    for (int size : new int[] {4, 16}) {
      Probe p = new Probe(8, size);
      for (int fd = 1; fd < size; fd++) {
        p.status(ST_FDS, fd);
        p.derive(0, 0).is(fd);
      }
      p.status(ST_FDS, size);
      p.derive(0, 0).is(E_FULL);
      p.status(ST_FDS, size);
      for (int fd = 0; fd < size; fd++) p.close(fd).is(0);
      p.status(ST_FDS, 0);
    }
  }

  private static void tellsTheSizes() {
    Check.sentence(11, "ST_MAXNODES and ST_MAXFDS: the clamped sizes.");
    int[][] sizes = {{0, 0, 8, 4}, {8, 4, 8, 4}, {9, 5, 9, 5}, {32, 16, 32, 16}, {33, 17, 32, 16}};
    for (int[] size : sizes) {
      Probe p = new Probe(size[0], size[1]);
      p.status(ST_MAXNODES, size[2]);
      p.status(ST_MAXFDS, size[3]);
      p.create(0, 1, KIND_DIR).is(1);
      p.derive(0, 1).is(1);
      p.status(ST_MAXNODES, size[2]);
      p.status(ST_MAXFDS, size[3]);
    }
  }

  private static void refusesOthers() {
    Check.sentence(11, "Any other 'what' (for example 7, ST_PATHCOMP + path length or more, or any negative value): E_BADARG.");
    for (boolean capMode : Doc.both()) {
      for (int length = 0; length <= 8; length++) {
        Probe p = new Probe(8, 4).inCapMode(capMode).path(true, 1, 2, 3, 4, 5, 6, 7, 8);
        p.path(true, new int[length]);
        p.status(7, E_BADARG);
        for (int what = ST_PATHCOMP + length; what <= 40; what++) p.status(what, E_BADARG);
        for (int what : Check.andFarOut(-1, -3, -7, -8, FD_GLOBAL)) p.status(what, E_BADARG);
        if (length > 0) p.status(ST_PATHCOMP + length - 1, 0);
      }
    }
  }

  // What is asked all the time must come out as what is never asked.
  private static void changesNothing() {
    Check.sentence(11, "`status(int what)` answers, without changing anything:");
    Script.makesNoDifference(p -> { }, Boundary11StatusTest::ask);
  }

  private static void ask(CapabilitySandbox box) {
    for (int what = -2; what <= 17; what++) box.status(what);
  }
}
