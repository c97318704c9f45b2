import java.util.Arrays;

/** The boundary sentences of promise 13, each with a test of its own. */
public final class Boundary13NodeInfoTest implements Doc {
  public static void main(String[] args) {
    refusesWhatIsNoNode();
    tellsTheFields();
    tellsTheTarget();
    tellsFreeNodes();
    refusesOthers();
    changesNothing();
    Check.end("Boundary13NodeInfoTest");
  }

  private static void refusesWhatIsNoNode() {
    Check.sentence(13, "node is outside 0..maxNodes-1: E_BADARG.");
    for (int size = 8; size <= 32; size++) {
      Probe p = new Probe(size, 4);
      for (int node : Check.andFarOut(-1, size, size + 1, 33, 64)) {
        for (int what : new int[] {NI_KIND, NI_PARENT, NI_NAME, NI_LINKLEN, NI_LINKABS, 5, NI_LINKCOMP, -1}) {
          p.nodeInfo(node, what, E_BADARG);
        }
      }
      p.nodeInfo(0, NI_KIND, KIND_DIR);
      p.nodeInfo(size - 1, NI_KIND, KIND_FREE);
    }
  }

  private static void tellsTheFields() {
    Check.sentence(13, "Otherwise NI_KIND, NI_PARENT, NI_NAME give the node's kind, parent and name.");
    Probe p = new Probe(8, 4);
    p.create(0, 15, KIND_DIR).is(1);
    p.open(0, 15).is(1);
    for (int node = 2; node < 8; node++) p.create(1, 2 * node - 1, 1 + node % 3).is(node);
    p.nodeIs(0, KIND_DIR, 0, 0);
    p.nodeIs(1, KIND_DIR, 0, 15);
    for (int node = 2; node < 8; node++) p.nodeIs(node, 1 + node % 3, 1, 2 * node - 1);
  }

  /** Links with targets of every length beside each other, so that none can be read into the next one. */
  private static Probe links(boolean absolute) {
    Probe p = new Probe(32, 4);
    int[] target = {16, 0, 15, 7};
    for (int name = 1; name <= 15; name++) p.link(0, name, absolute, Arrays.copyOf(target, name % 5));
    return p;
  }

  private static void tellsTheTarget() {
    int[] target = {16, 0, 15, 7};
    for (boolean absolute : Doc.both()) {
      Probe p = links(absolute);
      for (int node = 1; node <= 15; node++) {
        Check.sentence(13, "NI_LINKLEN gives the target's length.");
        p.nodeInfo(node, NI_LINKLEN, node % 5);
        Check.sentence(13, "NI_LINKABS gives 1 if the target's flag is set, else 0.");
        p.nodeInfo(node, NI_LINKABS, absolute ? 1 : 0);
        Check.sentence(13, "NI_LINKCOMP + i, for 0 <= i < target length, gives component i.");
        for (int i = 0; i < node % 5; i++) p.nodeInfo(node, NI_LINKCOMP + i, target[i]);
      }
    }
  }

  private static void tellsFreeNodes() {
    Check.sentence(13, "For a FREE node every one of these is 0 and it has no components.");
    Probe p = links(true);
    for (int name = 1; name <= 15; name++) p.unlink(0, name).is(0);
    for (int node = 1; node < 32; node++) {
      p.nodeIs(node, KIND_FREE, 0, 0);
      p.targetIs(node, false);
    }
  }

  private static void refusesOthers() {
    Check.sentence(13, "Any other 'what' (including 5, 6, 7, NI_LINKCOMP + target length or more, and negative values): E_BADARG.");
    Probe p = links(true);
    p.unlink(0, 4).is(0);
    p.unlink(0, 9).is(0);
    p.create(0, 4, KIND_DIR).is(4);
    for (int node = 0; node <= 16; node++) {
      int length = node == 0 || node == 4 || node == 9 || node == 16 ? 0 : node % 5;
      for (int what = 5; what <= 7; what++) p.nodeInfo(node, what, E_BADARG);
      for (int what = NI_LINKCOMP + length; what <= 24; what++) p.nodeInfo(node, what, E_BADARG);
      for (int what : Check.andFarOut(-1, -4, -8, FD_GLOBAL)) p.nodeInfo(node, what, E_BADARG);
    }
  }

  // What is asked all the time must come out as what is never asked.
  private static void changesNothing() {
    Check.sentence(13, "`nodeInfo(int node, int what)` answers, without changing anything:");
    Script.makesNoDifference(p -> { }, Boundary13NodeInfoTest::ask);
  }

  private static void ask(CapabilitySandbox box) {
    for (int node = -1; node <= 9; node++) {
      for (int what = -1; what <= 13; what++) box.nodeInfo(node, what);
    }
  }
}
