import java.util.LinkedHashMap;
import java.util.Map;

public final class Promise01ConstructionTest {
  public static void main(String[] args) {
    int min = Integer.MIN_VALUE;
    int max = Integer.MAX_VALUE;
    int[][] nodeSizes = {{min, 8}, {-1, 8}, {0, 8}, {7, 8}, {8, 8}, {9, 9}, {20, 20}, {31, 31}, {32, 32}, {33, 32}, {max, 32}};
    int[][] fdSizes = {{min, 4}, {-1, 4}, {0, 4}, {3, 4}, {4, 4}, {5, 5}, {10, 10}, {15, 15}, {16, 16}, {17, 16}, {max, 16}};
    for (int[] nodes : nodeSizes) {
      for (int[] fds : fdSizes) {
        CapabilitySandbox box = new CapabilitySandbox(nodes[0], fds[0]);
        startsAsDue("new (" + nodes[0] + ", " + fds[0] + ")", box, nodes[1], fds[1]);
      }
    }
    sizesAreUsed(8, 4);
    sizesAreUsed(13, 7);
    sizesAreUsed(32, 16);
    objectsShareNothing();
    Check.end("Promise01ConstructionTest");
  }

  private static void startsAsDue(String call, CapabilitySandbox box, int maxNodes, int maxFds) {
    Map<String, Integer> want = new LinkedHashMap<>();
    want.put("cap", 0);
    want.put("path.len", 0);
    want.put("path.abs", 0);
    want.put("nodes", 1);
    want.put("fds", 1);
    want.put("maxNodes", maxNodes);
    want.put("maxFds", maxFds);
    for (int i = 0; i < 8; i++) want.put("path." + i, -10);
    for (int fd = 0; fd < 16; fd++) {
      boolean inside = fd < maxFds;
      want.put("fd" + fd + ".node", fd == 0 ? 0 : -1);
      want.put("fd" + fd + ".rights", fd == 0 ? 63 : inside ? 0 : -1);
      want.put("fd" + fd + ".origin", -1);
    }
    for (int node = 0; node < 32; node++) {
      int none = node < maxNodes ? 0 : -10;
      want.put("n" + node + ".kind", node == 0 ? 1 : none);
      for (String field : new String[] {"parent", "name", "len", "abs"}) want.put("n" + node + "." + field, none);
      for (int i = 0; i < 4; i++) want.put("n" + node + "." + i, -10);
    }
    Map<String, Integer> got = Check.snapshot(box);
    for (Map.Entry<String, Integer> due : want.entrySet()) {
      Check.due(call + " " + due.getKey(), got.get(due.getKey()), due.getValue());
    }
    Check.due(call + " values seen", got.size(), want.size());
  }

  // A directory has room for 15 names, so the root alone can't hold the greatest tree.
  private static void sizesAreUsed(int maxNodes, int maxFds) {
    CapabilitySandbox box = new CapabilitySandbox(maxNodes, maxFds);
    Check.make(box, 0, 1, 1);
    Check.make(box, 0, 2, 1);
    int[] directories = {0, Check.open(box, 0, 63, 1), Check.open(box, 0, 63, 2)};
    for (int node = 3; node <= maxNodes; node++) {
      int got = box.create(directories[(node - 1) / 15], (node - 1) % 15 + 1, 2);
      Check.due("create of node " + node + " of " + maxNodes, got, node < maxNodes ? node : -9);
    }
    for (int fd = 3; fd <= maxFds; fd++) {
      Check.due("derive of slot " + fd + " of " + maxFds, box.derive(0, 63), fd < maxFds ? fd : -9);
    }
    Check.due("nodes", box.status(3), maxNodes);
    Check.due("fds", box.status(4), maxFds);
  }

  private static void objectsShareNothing() {
    CapabilitySandbox first = new CapabilitySandbox(8, 4);
    CapabilitySandbox second = new CapabilitySandbox(8, 4);
    Map<String, Integer> before = Check.snapshot(second);
    Check.link(first, 0, 1, true, 3, 4);
    first.derive(0, 1);
    first.enterCapMode();
    if (!Check.snapshot(second).equals(before)) Check.report("a call on one object changed another");
  }
}
