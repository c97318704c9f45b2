import java.util.ArrayList;
import java.util.List;

/** The sentences of the document that speak of every lookup: all short paths are walked, and one very deep one. */
public final class Boundary04InsideTest implements Doc {
  private static final String INSIDE = "When capability mode is on and fd >= 0 succeeds, the opened node is fd's node "
      + "or one of its descendants (following parents from it reaches fd's node within maxNodes steps), and the origin is fd.";
  private static final int[] COMPONENTS = {0, 1, 2, 3, 4, 6, 7, 8, 9, 10, 16};

  private static int opened = 0;
  private static int refused = 0;

  public static void main(String[] args) {
    everyShortPathStaysInside();
    theDeepestPathStaysInside();
    globalLookupsAreRefused();
    Check.end("Boundary04InsideTest");
  }

  /** Each of the three directories has links that lead up, down, round in a ring and to the root. */
  private static Tree linked() {
    Tree tree = new Tree();
    for (int fd = 0; fd <= 2; fd++) {
      tree.link(fd, 6, false, UP);
      tree.link(fd, 7, false, 2, UP, UP, 1);
      tree.link(fd, 8, true, 1);
      tree.link(fd, 9, false, 10, 9);
      tree.link(fd, 10, false);
    }
    return tree;
  }

  private static void everyShortPathStaysInside() {
    Check.sentence(4, INSIDE);
    Probe p = linked().inCapMode(true).p;
    for (int fd = 0; fd <= 2; fd++) {
      opened = 0;
      refused = 0;
      walk(p.box, fd, new ArrayList<>(), 5);
      if (opened == 0 || refused == 0) Check.report(opened + " paths from slot " + fd + " open, " + refused + " do not");
    }
  }

  private static void walk(CapabilitySandbox box, int fd, List<Integer> path, int more) {
    Check.path(box, false, path.stream().mapToInt(Integer::intValue).toArray());
    int slot = box.openAt(fd, R_ALL);
    if (slot < 0) refused++;
    if (slot >= 0) {
      opened++;
      String text = "openAt(" + fd + ", 63) of " + path;
      if (!isBelow(box, box.fdInfo(slot, FI_NODE), box.fdInfo(fd, FI_NODE))) Check.report(text + " left the subtree");
      Check.due(text + ": its origin", box.fdInfo(slot, FI_ORIGIN), fd);
      box.close(slot);
    }
    for (int i = 0; i < COMPONENTS.length && more > 0; i++) {
      path.add(COMPONENTS[i]);
      walk(box, fd, path, more - 1);
      path.remove(path.size() - 1);
    }
  }

  private static boolean isBelow(CapabilitySandbox box, int node, int directory) {
    int at = node;
    for (int steps = 0; steps <= box.status(ST_MAXNODES) && at != directory; steps++) at = box.nodeInfo(at, NI_PARENT);
    return at == directory;
  }

  /** Directories with the name 1 within each other, 25 deep, and in every fourth a link 2 that leads four down. */
  private static void theDeepestPathStaysInside() {
    Check.sentence(4, INSIDE);
    Probe p = new Probe(32, 4);
    p.derive(0, R_ALL).is(1);
    for (int depth = 0; depth < 25; depth++) {
      if (depth % 4 == 0 && depth < 24) p.link(1, 2, false, 1, 1, 1, 1);
      int slot = Check.make(p.box, 1, 1, KIND_DIR);
      p.open(1, 1).is(2);
      p.slotIs(2, slot, R_ALL, 1);
      p.close(1).is(0);
      p.derive(2, R_ALL).is(1);
      p.close(2).is(0);
    }
    p.status(ST_NODES, 32);
    int deepest = p.box.fdInfo(1, FI_NODE);
    p.inCapMode(true);
    p.open(0, 2, 2, 2, 2, 2, 2, 1).is(2);
    p.slotIs(2, deepest, R_ALL, 0);
    p.open(0, 2, 2, 2, 2, 2, 2, 1, UP).is(3);
    p.slotIs(3, p.box.nodeInfo(deepest, NI_PARENT), R_ALL, 0);
    p.close(3).is(0);
    p.open(0, 2, 2, 2, 2, 2, 2, 1, 1).is(E_NOENT);
    p.open(2).is(3);
    p.close(3).is(0);
    p.open(2, UP).is(E_ESCAPE);
  }

  private static void globalLookupsAreRefused() {
    Check.sentence(0, "Once it is on, global lookups are refused and every lookup stays inside the subtree "
        + "of the directory descriptor it starts from.");
    Tree tree = linked().inCapMode(true);
    for (int component : COMPONENTS) {
      tree.fails(E_CAPMODE, FD_GLOBAL, component);
      tree.failsAbsolute(E_CAPMODE, FD_GLOBAL, component);
    }
    // What a descriptor holds may be moved, and then the subtree is where it was moved to.
    tree.p.rename(1, 2, 0, 2).is(0);
    tree.fails(E_ESCAPE, 2, UP);
    tree.fails(E_NOENT, 1, 2);
    tree.opens(0, 0, 2, UP);
    tree.opens(3, 2, 3);
  }
}
