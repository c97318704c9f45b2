/**
 * The tree that the tests of openAt walk in: nodes 1 = DIR /1, 2 = DIR /1/2, 3 = FILE /1/2/3, 4 = FILE /4, 5 = DIR /1/5.
 * Slots 1 and 2 hold nodes 1 and 2 with all rights; slots 3 to 5 are closed.
 */
final class Tree implements Doc {
  final Probe p = new Probe(32, 6);

  Tree() {
    p.create(0, 1, KIND_DIR).is(1);
    p.open(0, 1).is(1);
    p.create(1, 2, KIND_DIR).is(2);
    p.open(1, 2).is(2);
    p.create(2, 3, KIND_FILE).is(3);
    p.create(0, 4, KIND_FILE).is(4);
    p.create(1, 5, KIND_DIR).is(5);
  }

  Tree link(int fd, int name, boolean absolute, int... target) {
    p.link(fd, name, absolute, target);
    return this;
  }

  Tree inCapMode(boolean on) {
    p.inCapMode(on);
    return this;
  }

  /** The relative path opens this node, as slot 3 with all rights and nothing else; then the slot is closed again. */
  void opens(int node, int fd, int... components) {
    opensPath(node, fd, false, components);
  }

  void opensAbsolute(int node, int fd, int... components) {
    opensPath(node, fd, true, components);
  }

  private void opensPath(int node, int fd, boolean absolute, int... components) {
    p.path(absolute, components);
    if (fd == FD_GLOBAL) p.openAt(fd, R_ALL).changes(3, "fd3.node=" + node, "fd3.rights=63", "fds=4");
    else p.openAt(fd, R_ALL).changes(3, "fd3.node=" + node, "fd3.rights=63", "fd3.origin=" + fd, "fds=4");
    p.close(3).is(0);
  }

  void fails(int error, int fd, int... components) {
    p.open(fd, components).is(error);
  }

  void failsAbsolute(int error, int fd, int... components) {
    p.path(true, components);
    p.openAt(fd, R_ALL).is(error);
  }
}
