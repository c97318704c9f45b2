/** A small file tree and the descriptor table of one process, whose descriptors carry rights. */
public final class CapabilitySandbox {
  public static final int KIND_FREE = 0, KIND_DIR = 1, KIND_FILE = 2, KIND_LINK = 3;
  public static final int COMP_DOT = 0, COMP_DOTDOT = 16, NAME_MIN = 1, NAME_MAX = 15;
  public static final int R_READ = 1, R_WRITE = 2, R_LOOKUP = 4, R_CREATE = 8;
  public static final int R_RENAME = 16, R_DELETE = 32, R_ALL = 63;
  public static final int MAX_PATH = 8, MAX_LINK = 4, MAX_HOPS = 8, FD_GLOBAL = -100;
  public static final int E_BADFD = -1, E_NOTCAP = -2, E_CAPMODE = -3, E_NOTDIR = -4;
  public static final int E_NOENT = -5, E_EXIST = -6, E_LOOP = -7, E_ESCAPE = -8;
  public static final int E_FULL = -9, E_BADARG = -10, E_BUSY = -11, E_NOTEMPTY = -12;
  public static final int E_INVAL = -13, E_TOOLONG = -14;
  public static final int FI_NODE = 0, FI_RIGHTS = 1, FI_ORIGIN = 2;
  public static final int NI_KIND = 0, NI_PARENT = 1, NI_NAME = 2, NI_LINKLEN = 3;
  public static final int NI_LINKABS = 4, NI_LINKCOMP = 8;
  public static final int ST_CAPMODE = 0, ST_PATHLEN = 1, ST_PATHABS = 2, ST_NODES = 3;
  public static final int ST_FDS = 4, ST_MAXNODES = 5, ST_MAXFDS = 6, ST_PATHCOMP = 8;

  private static final int LEAST_NODES = 8, MOST_NODES = 32;
  private static final int LEAST_FDS = 4, MOST_FDS = 16;
  private static final int MOST_LINK_COMPONENTS = MOST_NODES * MAX_LINK;
  private static final int ROOT = 0;
  private static final int NONE = -1;
  private static final int OK = 0;
  // Every component a walk can ever meet: the path's own, and those of each link it may follow.
  private static final int MOST_PENDING = MAX_PATH + MAX_HOPS * MAX_LINK;

  private final int maxNodes;
  private final int maxFds;

  private final int[] nodeKind = new int[MOST_NODES];
  private final int[] nodeParent = new int[MOST_NODES];
  private final int[] nodeName = new int[MOST_NODES];
  private final int[] linkLength = new int[MOST_NODES];
  private final boolean[] linkAbsolute = new boolean[MOST_NODES];
  // Node n's target stands from n * MAX_LINK on, as arrays of arrays are ruled out.
  private final int[] linkComponents = new int[MOST_LINK_COMPONENTS];

  // A slot is closed exactly when its node is NONE.
  private final int[] fdNode = new int[MOST_FDS];
  private final int[] fdRights = new int[MOST_FDS];
  private final int[] fdOrigin = new int[MOST_FDS];

  private final int[] pathComponents = new int[MAX_PATH];
  private int pathLength = 0;
  private boolean pathAbsolute = false;

  private boolean capMode = false;

  // What follows is set anew by each walk and means nothing between two calls.
  // The pending components are the last ones of the array, from pendingStart on,
  // so that a link's target can be put in front of them.
  private final int[] pending = new int[MOST_PENDING];
  private int pendingStart = MOST_PENDING;
  private int walkNode = ROOT;
  private int walkDepth = 0;
  private int walkHops = 0;

  public CapabilitySandbox(int maxNodes, int maxFds) {
    this.maxNodes = clamp(maxNodes, LEAST_NODES, MOST_NODES);
    this.maxFds = clamp(maxFds, LEAST_FDS, MOST_FDS);
    nodeKind[ROOT] = KIND_DIR;
    for (int slot = 0; slot < MOST_FDS; slot++) {
      setSlot(slot, NONE, 0, NONE);
    }
    setSlot(0, ROOT, R_ALL, NONE);
  }

  public void pathReset(boolean absolute) {
    pathLength = 0;
    pathAbsolute = absolute;
  }

  public int pathPush(int c) {
    if (c < COMP_DOT || c > COMP_DOTDOT) return E_BADARG;
    if (pathLength >= MAX_PATH) return E_TOOLONG;
    pathComponents[pathLength] = c;
    pathLength++;
    return pathLength;
  }

  public int create(int fd, int name, int kind) {
    if (!isCreatableKind(kind) || !isName(name)) return E_BADARG;
    int refusal = refusalToUseDirectory(fd, R_CREATE);
    if (refusal != OK) return refusal;
    if (kind == KIND_LINK && pathLength > MAX_LINK) return E_TOOLONG;
    int directory = fdNode[fd];
    if (childNamed(directory, name) != NONE) return E_EXIST;
    int node = lowestFreeNode();
    if (node == NONE) return E_FULL;
    setNode(node, kind, directory, name);
    if (kind == KIND_LINK) copyPathToLink(node);
    return node;
  }

  public int openAt(int fd, int rights) {
    if (fd == FD_GLOBAL) {
      if (capMode) return E_CAPMODE;
      return openFrom(ROOT, rights & R_ALL, NONE);
    }
    int refusal = refusalToUseDirectory(fd, R_LOOKUP);
    if (refusal != OK) return refusal;
    return openFrom(fdNode[fd], rights & fdRights[fd], fd);
  }

  public int derive(int fd, int rights) {
    if (!isOpen(fd)) return E_BADFD;
    return openSlot(fdNode[fd], rights & fdRights[fd], fd);
  }

  public int limit(int fd, int rights) {
    if (!isOpen(fd)) return E_BADFD;
    fdRights[fd] = rights & fdRights[fd];
    return fdRights[fd];
  }

  public int close(int fd) {
    if (!isOpen(fd)) return E_BADFD;
    setSlot(fd, NONE, 0, NONE);
    return OK;
  }

  public void enterCapMode() {
    capMode = true;
  }

  public int rename(int fromFd, int fromName, int toFd, int toName) {
    if (!isName(fromName) || !isName(toName)) return E_BADARG;
    if (!isOpen(fromFd) || !isOpen(toFd)) return E_BADFD;
    if (!isDirectoryFd(fromFd) || !isDirectoryFd(toFd)) return E_NOTDIR;
    if (!hasRight(fromFd, R_RENAME) || !hasRight(toFd, R_RENAME)) return E_NOTCAP;
    int moved = childNamed(fdNode[fromFd], fromName);
    if (moved == NONE) return E_NOENT;
    int target = fdNode[toFd];
    if (childNamed(target, toName) != NONE) return E_EXIST;
    if (nodeKind[moved] == KIND_DIR && isAtOrBelow(target, moved)) return E_INVAL;
    nodeParent[moved] = target;
    nodeName[moved] = toName;
    return OK;
  }

  public int unlink(int fd, int name) {
    if (!isName(name)) return E_BADARG;
    int refusal = refusalToUseDirectory(fd, R_DELETE);
    if (refusal != OK) return refusal;
    int removed = childNamed(fdNode[fd], name);
    if (removed == NONE) return E_NOENT;
    if (isHeldOpen(removed)) return E_BUSY;
    if (hasChildren(removed)) return E_NOTEMPTY;
    setNode(removed, KIND_FREE, ROOT, 0);
    return OK;
  }

  public int status(int what) {
    switch (what) {
      case ST_CAPMODE: return capMode ? 1 : 0;
      case ST_PATHLEN: return pathLength;
      case ST_PATHABS: return pathAbsolute ? 1 : 0;
      case ST_NODES: return countUsedNodes();
      case ST_FDS: return countOpenSlots();
      case ST_MAXNODES: return maxNodes;
      case ST_MAXFDS: return maxFds;
      default: break;
    }
    if (what < ST_PATHCOMP || what >= ST_PATHCOMP + pathLength) return E_BADARG;
    return pathComponents[what - ST_PATHCOMP];
  }

  public int fdInfo(int fd, int what) {
    if (fd < 0 || fd >= maxFds) return E_BADFD;
    switch (what) {
      case FI_NODE: return fdNode[fd];
      case FI_RIGHTS: return fdRights[fd];
      case FI_ORIGIN: return fdOrigin[fd];
      default: return E_BADARG;
    }
  }

  public int nodeInfo(int node, int what) {
    if (node < 0 || node >= maxNodes) return E_BADARG;
    switch (what) {
      case NI_KIND: return nodeKind[node];
      case NI_PARENT: return nodeParent[node];
      case NI_NAME: return nodeName[node];
      case NI_LINKLEN: return linkLength[node];
      case NI_LINKABS: return linkAbsolute[node] ? 1 : 0;
      default: break;
    }
    if (what < NI_LINKCOMP || what >= NI_LINKCOMP + linkLength[node]) return E_BADARG;
    return linkComponents[node * MAX_LINK + what - NI_LINKCOMP];
  }

  private static int clamp(int value, int least, int greatest) {
    if (value < least) return least;
    if (value > greatest) return greatest;
    return value;
  }

  private static boolean isName(int component) {
    return component >= NAME_MIN && component <= NAME_MAX;
  }

  private static boolean isCreatableKind(int kind) {
    return kind == KIND_DIR || kind == KIND_FILE || kind == KIND_LINK;
  }

  private boolean isOpen(int fd) {
    return fd >= 0 && fd < maxFds && fdNode[fd] != NONE;
  }

  private boolean isDirectoryFd(int openFd) {
    return nodeKind[fdNode[openFd]] == KIND_DIR;
  }

  private boolean hasRight(int openFd, int right) {
    return (fdRights[openFd] & right) != 0;
  }

  private int refusalToUseDirectory(int fd, int right) {
    if (!isOpen(fd)) return E_BADFD;
    if (!isDirectoryFd(fd)) return E_NOTDIR;
    if (!hasRight(fd, right)) return E_NOTCAP;
    return OK;
  }

  private void setSlot(int slot, int node, int rights, int origin) {
    fdNode[slot] = node;
    fdRights[slot] = rights;
    fdOrigin[slot] = origin;
  }

  private int openSlot(int node, int rights, int origin) {
    int slot = lowestClosedSlot();
    if (slot == NONE) return E_FULL;
    setSlot(slot, node, rights, origin);
    return slot;
  }

  private int lowestClosedSlot() {
    for (int slot = 0; slot < maxFds; slot++) {
      if (fdNode[slot] == NONE) return slot;
    }
    return NONE;
  }

  private int countOpenSlots() {
    int count = 0;
    for (int slot = 0; slot < maxFds; slot++) {
      if (fdNode[slot] != NONE) count++;
    }
    return count;
  }

  private boolean isHeldOpen(int node) {
    for (int slot = 0; slot < maxFds; slot++) {
      if (fdNode[slot] == node) return true;
    }
    return false;
  }

  private void setNode(int node, int kind, int parent, int name) {
    nodeKind[node] = kind;
    nodeParent[node] = parent;
    nodeName[node] = name;
    linkLength[node] = 0;
    linkAbsolute[node] = false;
  }

  private void copyPathToLink(int node) {
    linkLength[node] = pathLength;
    linkAbsolute[node] = pathAbsolute;
    for (int i = 0; i < pathLength; i++) {
      linkComponents[node * MAX_LINK + i] = pathComponents[i];
    }
  }

  // The searches below begin at node 1: the root is nobody's child, though its parent is itself.

  private int lowestFreeNode() {
    for (int node = 1; node < maxNodes; node++) {
      if (nodeKind[node] == KIND_FREE) return node;
    }
    return NONE;
  }

  private int childNamed(int directory, int name) {
    for (int node = 1; node < maxNodes; node++) {
      if (isChildOf(node, directory) && nodeName[node] == name) return node;
    }
    return NONE;
  }

  private boolean hasChildren(int directory) {
    for (int node = 1; node < maxNodes; node++) {
      if (isChildOf(node, directory)) return true;
    }
    return false;
  }

  // A FREE node's parent reads as the root, so the kind has to be asked too.
  private boolean isChildOf(int node, int directory) {
    return nodeKind[node] != KIND_FREE && nodeParent[node] == directory;
  }

  private int countUsedNodes() {
    int count = 0;
    for (int node = 0; node < maxNodes; node++) {
      if (nodeKind[node] != KIND_FREE) count++;
    }
    return count;
  }

  private boolean isAtOrBelow(int node, int ancestor) {
    int at = node;
    for (int steps = 0; steps < maxNodes; steps++) {
      if (at == ancestor) return true;
      at = nodeParent[at];
    }
    return false;
  }

  private int openFrom(int start, int rights, int origin) {
    int result = resolvePath(start);
    if (result < 0) return result;
    return openSlot(result, rights, origin);
  }

  private int resolvePath(int start) {
    if (pathAbsolute && capMode) return E_ESCAPE;
    walkNode = pathAbsolute ? ROOT : start;
    walkDepth = 0;
    walkHops = 0;
    loadPendingFromPath();
    for (int steps = 0; steps < MOST_PENDING && pendingStart < MOST_PENDING; steps++) {
      int component = pending[pendingStart];
      pendingStart++;
      int failure = walkComponent(component);
      if (failure != OK) return failure;
    }
    return walkNode;
  }

  private void loadPendingFromPath() {
    pendingStart = MOST_PENDING - pathLength;
    for (int i = 0; i < pathLength; i++) {
      pending[pendingStart + i] = pathComponents[i];
    }
  }

  private int walkComponent(int component) {
    if (component == COMP_DOT) return OK;
    if (component == COMP_DOTDOT) return walkUp();
    int child = childNamed(walkNode, component);
    if (child == NONE) return E_NOENT;
    if (nodeKind[child] == KIND_LINK) return followLink(child);
    if (nodeKind[child] == KIND_DIR) {
      walkDepth++;
    } else if (pendingStart < MOST_PENDING) {
      return E_NOTDIR;
    }
    walkNode = child;
    return OK;
  }

  private int walkUp() {
    if (capMode && walkDepth == 0) return E_ESCAPE;
    walkNode = nodeParent[walkNode];
    walkDepth--;
    return OK;
  }

  private int followLink(int link) {
    walkHops++;
    if (walkHops > MAX_HOPS) return E_LOOP;
    if (linkAbsolute[link]) {
      if (capMode) return E_ESCAPE;
      walkNode = ROOT;
      walkDepth = 0;
    }
    int length = linkLength[link];
    pendingStart -= length;
    for (int i = 0; i < length; i++) {
      pending[pendingStart + i] = linkComponents[link * MAX_LINK + i];
    }
    return OK;
  }
}
