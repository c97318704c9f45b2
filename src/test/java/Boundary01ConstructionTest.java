/** The boundary sentences of promise 1, each with a test of its own. */
public final class Boundary01ConstructionTest implements Doc {
  public static void main(String[] args) {
    neverFails();
    clamps();
    usesTheClampedNodes();
    usesTheClampedSlots();
    startsWithOneNode();
    startsWithOneSlot();
    startsOutsideCapMode();
    startsWithAnEmptyPath();
    Check.end("Boundary01ConstructionTest");
  }

  private static void neverFails() {
    Check.sentence(1, "`CapabilitySandbox(int maxNodes, int maxFds)` never fails.");
    for (int maxNodes : Check.andFarOut(-1, 0, 1, 40)) {
      for (int maxFds : Check.andFarOut(-1, 0, 1, 40)) {
        Probe p = new Probe(maxNodes, maxFds);
        p.create(0, 1, KIND_DIR).is(1);
        p.open(0, 1).is(1);
      }
    }
  }

  private static void clamps() {
    Check.sentence(1, "maxNodes is clamped to 8..32 and maxFds to 4..16: a value below the least becomes the least, "
        + "and a value above the greatest becomes the greatest (so any negative value or Integer.MIN_VALUE gives the least, "
        + "Integer.MAX_VALUE gives the greatest).");
    for (int size = -40; size <= 70; size++) sizesAre(size);
    for (int size : Check.farOut()) sizesAre(size);
  }

  private static void sizesAre(int size) {
    int nodes = size < 8 ? 8 : size > 32 ? 32 : size;
    int fds = size < 4 ? 4 : size > 16 ? 16 : size;
    sizesAre(size, size, nodes, fds);
    sizesAre(size, 10, nodes, 10);
    sizesAre(10, size, 10, fds);
  }

  private static void sizesAre(int maxNodes, int maxFds, int nodes, int fds) {
    Probe p = new Probe(maxNodes, maxFds);
    p.status(ST_MAXNODES, nodes);
    p.status(ST_MAXFDS, fds);
  }

  private static final String SIZES_USED = "The clamped values are the sizes used everywhere afterwards "
      + "and are reported by status(ST_MAXNODES) and status(ST_MAXFDS).";

  private static void usesTheClampedNodes() {
    Check.sentence(1, SIZES_USED);
    for (int asked = 6; asked <= 34; asked++) {
      int size = Math.max(8, Math.min(32, asked));
      Probe p = new Probe(asked, 16);
      p.nodeInfo(size - 1, NI_KIND, KIND_FREE);
      p.nodeInfo(size, NI_KIND, E_BADARG);
      int last = fill(p, size);
      p.status(ST_NODES, size);
      p.create(last, 15, KIND_FILE).is(E_FULL);
      p.nodeInfo(size - 1, NI_KIND, KIND_FILE);
      p.open(last, 14).is(3);
      p.slotIs(3, size - 1, R_ALL, last);
      p.close(3).is(0);
      p.rename(last, 14, last, 15).is(0);
      p.unlink(last, 15).is(0);
      p.create(last, 15, KIND_DIR).is(size - 1);
    }
  }

  /** Uses every node, the last as a FILE with the name 14; answers the slot of its directory. Slots 1 and 2 are used. */
  private static int fill(Probe p, int size) {
    p.create(0, 1, KIND_DIR).is(1);
    p.create(0, 2, KIND_DIR).is(2);
    p.open(0, 1).is(1);
    p.open(0, 2).is(2);
    int node = 3;
    for (int name = 3; name <= 13 && node < size - 1; name++, node++) p.create(0, name, KIND_FILE).is(node);
    for (int name = 1; name <= 13 && node < size - 1; name++, node++) p.create(1, name, KIND_FILE).is(node);
    for (int name = 1; name <= 13 && node < size - 1; name++, node++) p.create(2, name, KIND_FILE).is(node);
    p.create(2, 14, KIND_FILE).is(size - 1);
    return 2;
  }

  private static void usesTheClampedSlots() {
    Check.sentence(1, SIZES_USED);
    for (int asked = 2; asked <= 18; asked++) {
      int size = Math.max(4, Math.min(16, asked));
      Probe p = new Probe(8, asked);
      p.fdInfo(size - 1, FI_RIGHTS, 0);
      p.fdInfo(size, FI_RIGHTS, E_BADFD);
      p.create(0, 1, KIND_DIR).is(1);
      for (int fd = 1; fd < size; fd++) p.open(0, 1).is(fd);
      p.status(ST_FDS, size);
      p.derive(0, R_ALL).is(E_FULL);
      p.open(0, 1).is(E_FULL);
      p.create(size - 1, 1, KIND_FILE).is(2);
      p.create(size, 2, KIND_FILE).is(E_BADFD);
      for (int fd = 1; fd < size - 1; fd++) p.close(fd).is(0);
      p.unlink(0, 1).is(E_BUSY);
      p.close(size).is(E_BADFD);
      p.close(size - 1).is(0);
    }
  }

  private static void startsWithOneNode() {
    Check.sentence(1, "Initial state: only node 0 is used; it is the root directory with parent 0 and name 0, "
        + "and every other node is FREE.");
    for (int size : new int[] {8, 9, 31, 32}) {
      Probe p = new Probe(size, 4);
      p.status(ST_NODES, 1);
      p.nodeIs(0, KIND_DIR, 0, 0);
      p.targetIs(0, false);
      for (int node = 1; node < size; node++) {
        p.nodeIs(node, KIND_FREE, 0, 0);
        p.targetIs(node, false);
      }
    }
  }

  private static void startsWithOneSlot() {
    Check.sentence(1, "Slot 0 is open with node 0, rights R_ALL and origin -1; all other slots are closed.");
    for (int size : new int[] {4, 5, 15, 16}) {
      Probe p = new Probe(8, size);
      p.status(ST_FDS, 1);
      p.slotIs(0, 0, R_ALL, -1);
      for (int fd = 1; fd < size; fd++) {
        p.slotIs(fd, -1, 0, -1);
        p.close(fd).is(E_BADFD);
      }
    }
  }

  private static void startsOutsideCapMode() {
    Check.sentence(1, "Capability mode is off.");
    Probe p = new Probe(8, 4);
    p.status(ST_CAPMODE, 0);
    p.openAt(FD_GLOBAL, R_ALL).is(1);
    p.open(0, UP).is(2);
  }

  private static void startsWithAnEmptyPath() {
    Check.sentence(1, "The path buffer is empty and not absolute.");
    Probe p = new Probe(8, 4);
    p.pathIs(false);
    p.create(0, 1, KIND_LINK).is(1);
    p.targetIs(1, false);
    p.pathPush(7).changes(1, "path.len=1", "path.0=7");
  }
}
