import java.util.function.Consumer;

/** A fixed run of calls whose answers tell whether two objects that were alike still are. */
final class Script implements Doc {
  private static final int STEPS = 15;

  private Script() {}

  /**
   * Nodes 1 = DIR /1, 2 = FILE /2, 3 = LINK /3 to itself, 4 = DIR /1/1, 5 = DIR /5 with 6 = FILE /5/1.
   * Slots 1 = the root without rights, 2 = node 2, 3 = node 1; if full, slot 4 and node 7 = FILE /7 are the last ones.
   */
  private static Probe busy(boolean capMode, boolean full) {
    Probe p = new Probe(8, 5);
    p.create(0, 1, KIND_DIR).is(1);
    p.create(0, 2, KIND_FILE).is(2);
    p.link(0, 3, false, 3);
    p.derive(0, 0).is(1);
    p.open(0, 2).is(2);
    p.open(0, 1).is(3);
    p.create(3, 1, KIND_DIR).is(4);
    p.create(0, 5, KIND_DIR).is(5);
    p.open(0, 5).is(4);
    p.create(4, 1, KIND_FILE).is(6);
    p.close(4).is(0);
    if (full) p.create(0, 7, KIND_FILE).is(7);
    if (full) p.derive(0, 31).is(4);
    return p.inCapMode(capMode);
  }

  private static int advance(CapabilitySandbox box, int step) {
    switch (step) {
      case 0: return box.close(2);
      case 1: return box.openAt(0, 29);
      case 2: return box.derive(2, 21);
      case 3: return box.unlink(0, 2);
      case 4: return box.create(2, 9, KIND_LINK);
      case 5: return box.pathPush(9);
      case 6: return box.openAt(0, R_ALL);
      case 7: return box.limit(0, 55);
      case 8: return box.rename(0, 5, 3, 5);
      case 9: return box.close(3);
      case 10:
        box.pathReset(true);
        return 0;
      case 11: return box.pathPush(4);
      case 12: return box.create(0, 10, KIND_LINK);
      case 13: return box.unlink(0, 3);
      default: return box.openAt(0, R_ALL);
    }
  }

  /** Neither what is done once, at first, nor what is done between the steps may make a difference, in any mode. */
  static void makesNoDifference(Consumer<Probe> atFirst, Consumer<CapabilitySandbox> between) {
    for (boolean capMode : Doc.both()) {
      for (boolean full : Doc.both()) {
        Probe calm = busy(capMode, full);
        Probe tried = busy(capMode, full);
        atFirst.accept(tried);
        calm.path(false, 1);
        tried.path(false, 1);
        for (int step = 0; step < STEPS; step++) {
          between.accept(tried.box);
          Check.due("step " + step + " of the script", advance(tried.box, step), advance(calm.box, step));
        }
        boolean alike = Check.snapshot(tried.box).equals(Check.snapshot(calm.box));
        if (!alike) Check.report("the script ended with something else");
      }
    }
  }
}
