import java.util.ArrayDeque;
import java.util.ArrayList;
import java.util.LinkedHashMap;
import java.util.List;
import java.util.Map;
import java.util.TreeMap;

/** The document written down a second time, with the Java library and without an eye on the program. */
final class Model {
  private static final class Node {
    int kind;
    int parent;
    int name;
    boolean absolute;
    List<Integer> target = List.of();
  }

  private record Slot(int node, int rights, int origin) {}

  private final int maxNodes;
  private final int maxFds;
  private final TreeMap<Integer, Node> nodes = new TreeMap<>();
  private final TreeMap<Integer, Slot> slots = new TreeMap<>();
  private final List<Integer> path = new ArrayList<>();
  private boolean absolute;
  private boolean cap;

  Model(int maxNodes, int maxFds) {
    this.maxNodes = Math.min(32, Math.max(8, maxNodes));
    this.maxFds = Math.min(16, Math.max(4, maxFds));
    Node root = new Node();
    root.kind = 1;
    nodes.put(0, root);
    slots.put(0, new Slot(0, 63, -1));
  }

  void pathReset(boolean flag) {
    path.clear();
    absolute = flag;
  }

  int pathPush(int c) {
    if (c < 0 || c > 16) return -10;
    if (path.size() == 8) return -14;
    path.add(c);
    return path.size();
  }

  int create(int fd, int name, int kind) {
    if (kind < 1 || kind > 3 || badName(name)) return -10;
    Slot slot = slots.get(fd);
    if (slot == null) return -1;
    if (nodes.get(slot.node).kind != 1) return -4;
    if ((slot.rights & 8) == 0) return -2;
    if (kind == 3 && path.size() > 4) return -14;
    if (child(slot.node, name) != 0) return -6;
    for (int n = 1; n < maxNodes; n++) {
      if (nodes.containsKey(n)) continue;
      Node node = new Node();
      node.kind = kind;
      node.parent = slot.node;
      node.name = name;
      if (kind == 3) {
        node.absolute = absolute;
        node.target = List.copyOf(path);
      }
      nodes.put(n, node);
      return n;
    }
    return -9;
  }

  int openAt(int fd, int rights) {
    Slot from;
    if (fd == -100) {
      if (cap) return -3;
      from = new Slot(0, 63, -1);
    } else {
      from = slots.get(fd);
      if (from == null) return -1;
      if (nodes.get(from.node).kind != 1) return -4;
      if ((from.rights & 4) == 0) return -2;
    }
    int result = resolve(from.node);
    if (result < 0) return result;
    return put(new Slot(result, rights & from.rights, fd == -100 ? -1 : fd));
  }

  private int resolve(int start) {
    if (absolute && cap) return -8;
    int cur = absolute ? 0 : start;
    int depth = 0;
    int hops = 0;
    ArrayDeque<Integer> pending = new ArrayDeque<>(path);
    while (!pending.isEmpty()) {
      int c = pending.removeFirst();
      if (c == 0) continue;
      if (c == 16) {
        if (cap && depth == 0) return -8;
        cur = nodes.get(cur).parent;
        depth--;
        continue;
      }
      int n = child(cur, c);
      if (n == 0) return -5;
      Node node = nodes.get(n);
      if (node.kind == 1) {
        cur = n;
        depth++;
      } else if (node.kind == 2) {
        return pending.isEmpty() ? n : -4;
      } else {
        hops++;
        if (hops > 8) return -7;
        if (node.absolute) {
          if (cap) return -8;
          cur = 0;
          depth = 0;
        }
        for (int i = node.target.size() - 1; i >= 0; i--) pending.addFirst(node.target.get(i));
      }
    }
    return cur;
  }

  private int put(Slot slot) {
    for (int fd = 0; fd < maxFds; fd++) {
      if (slots.putIfAbsent(fd, slot) == null) return fd;
    }
    return -9;
  }

  int derive(int fd, int rights) {
    Slot slot = slots.get(fd);
    return slot == null ? -1 : put(new Slot(slot.node, rights & slot.rights, fd));
  }

  int limit(int fd, int rights) {
    Slot slot = slots.get(fd);
    if (slot == null) return -1;
    slots.put(fd, new Slot(slot.node, rights & slot.rights, slot.origin));
    return rights & slot.rights;
  }

  int close(int fd) {
    return slots.remove(fd) == null ? -1 : 0;
  }

  void enterCapMode() {
    cap = true;
  }

  int rename(int fromFd, int fromName, int toFd, int toName) {
    if (badName(fromName)) return -10;
    if (badName(toName)) return -10;
    Slot from = slots.get(fromFd);
    Slot to = slots.get(toFd);
    if (from == null) return -1;
    if (to == null) return -1;
    if (nodes.get(from.node).kind != 1) return -4;
    if (nodes.get(to.node).kind != 1) return -4;
    if ((from.rights & 16) == 0) return -2;
    if ((to.rights & 16) == 0) return -2;
    int m = child(from.node, fromName);
    if (m == 0) return -5;
    if (child(to.node, toName) != 0) return -6;
    for (int above = to.node; above != 0; above = nodes.get(above).parent) {
      if (above == m) return -13;
    }
    nodes.get(m).parent = to.node;
    nodes.get(m).name = toName;
    return 0;
  }

  int unlink(int fd, int name) {
    if (badName(name)) return -10;
    Slot slot = slots.get(fd);
    if (slot == null) return -1;
    if (nodes.get(slot.node).kind != 1) return -4;
    if ((slot.rights & 32) == 0) return -2;
    int m = child(slot.node, name);
    if (m == 0) return -5;
    if (slots.values().stream().anyMatch(open -> open.node == m)) return -11;
    if (nodes.values().stream().anyMatch(node -> node.name != 0 && node.parent == m)) return -12;
    nodes.remove(m);
    return 0;
  }

  private static boolean badName(int name) {
    return name < 1 || name > 15;
  }

  /** The child's index, or 0, which is nobody's child. */
  private int child(int directory, int name) {
    for (Map.Entry<Integer, Node> entry : nodes.entrySet()) {
      Node node = entry.getValue();
      if (entry.getKey() != 0 && node.parent == directory && node.name == name) return entry.getKey();
    }
    return 0;
  }

  /** The same keys, with what is due under each, as Check.snapshot reads from the program. */
  Map<String, Integer> snapshot() {
    Map<String, Integer> due = new LinkedHashMap<>();
    due.put("cap", cap ? 1 : 0);
    due.put("path.len", path.size());
    due.put("path.abs", absolute ? 1 : 0);
    due.put("nodes", nodes.size());
    due.put("fds", slots.size());
    due.put("maxNodes", maxNodes);
    due.put("maxFds", maxFds);
    for (int i = 0; i < 8; i++) due.put("path." + i, i < path.size() ? path.get(i) : -10);
    for (int fd = 0; fd < 16; fd++) {
      Slot slot = slots.getOrDefault(fd, fd < maxFds ? new Slot(-1, 0, -1) : new Slot(-1, -1, -1));
      due.put("fd" + fd + ".node", slot.node);
      due.put("fd" + fd + ".rights", slot.rights);
      due.put("fd" + fd + ".origin", slot.origin);
    }
    for (int n = 0; n < 32; n++) {
      boolean inside = n < maxNodes;
      Node node = nodes.getOrDefault(n, new Node());
      due.put("n" + n + ".kind", inside ? node.kind : -10);
      due.put("n" + n + ".parent", inside ? node.parent : -10);
      due.put("n" + n + ".name", inside ? node.name : -10);
      due.put("n" + n + ".len", inside ? node.target.size() : -10);
      due.put("n" + n + ".abs", inside ? node.absolute ? 1 : 0 : -10);
      for (int i = 0; i < 4; i++) due.put("n" + n + "." + i, i < node.target.size() ? node.target.get(i) : -10);
    }
    return due;
  }
}
