import java.util.function.IntSupplier;

/** A sandbox whose calls are told what they have to answer; a refused one must also change nothing. */
final class Probe {
  final CapabilitySandbox box;

  Probe(int maxNodes, int maxFds) {
    box = new CapabilitySandbox(maxNodes, maxFds);
  }

  /** A call that is made once it is told what is due. */
  final class Call {
    private final String text;
    private final IntSupplier run;

    private Call(String text, IntSupplier run) {
      this.text = text;
      this.run = run;
    }

    void is(int due) {
      if (due < 0) Check.unchanged(box, text, run, due);
      else Check.answers(text, run, due);
    }

    /** The call changes just these values, each told as "key=new value" with the keys of Check.snapshot. */
    void changes(int due, String... values) {
      Check.changes(box, text, run, due, values);
    }
  }

  Probe inCapMode(boolean on) {
    if (on) box.enterCapMode();
    return this;
  }

  Probe path(boolean absolute, int... components) {
    Check.path(box, absolute, components);
    return this;
  }

  Probe link(int fd, int name, boolean absolute, int... target) {
    Check.link(box, fd, name, absolute, target);
    return this;
  }

  Call pathReset(boolean absolute) {
    return new Call("pathReset(" + absolute + ")", () -> {
      box.pathReset(absolute);
      return 0;
    });
  }

  Call pathPush(int c) {
    return new Call("pathPush(" + c + ")", () -> box.pathPush(c));
  }

  Call create(int fd, int name, int kind) {
    return new Call("create(" + fd + ", " + name + ", " + kind + ")", () -> box.create(fd, name, kind));
  }

  Call openAt(int fd, int rights) {
    return new Call("openAt(" + fd + ", " + rights + ")", () -> box.openAt(fd, rights));
  }

  /** openAt of a relative path with all rights. */
  Call open(int fd, int... components) {
    path(false, components);
    return openAt(fd, Doc.R_ALL);
  }

  Call derive(int fd, int rights) {
    return new Call("derive(" + fd + ", " + rights + ")", () -> box.derive(fd, rights));
  }

  Call limit(int fd, int rights) {
    return new Call("limit(" + fd + ", " + rights + ")", () -> box.limit(fd, rights));
  }

  Call close(int fd) {
    return new Call("close(" + fd + ")", () -> box.close(fd));
  }

  Call enterCapMode() {
    return new Call("enterCapMode()", () -> {
      box.enterCapMode();
      return 0;
    });
  }

  Call rename(int fromFd, int fromName, int toFd, int toName) {
    String text = "rename(" + fromFd + ", " + fromName + ", " + toFd + ", " + toName + ")";
    return new Call(text, () -> box.rename(fromFd, fromName, toFd, toName));
  }

  Call unlink(int fd, int name) {
    return new Call("unlink(" + fd + ", " + name + ")", () -> box.unlink(fd, name));
  }

  /** The three that only tell: whatever they answer, they change nothing. */
  void tells(String text, IntSupplier run, int due) {
    Check.unchanged(box, text, run, due);
  }

  void status(int what, int due) {
    tells("status(" + what + ")", () -> box.status(what), due);
  }

  void fdInfo(int fd, int what, int due) {
    tells("fdInfo(" + fd + ", " + what + ")", () -> box.fdInfo(fd, what), due);
  }

  void nodeInfo(int node, int what, int due) {
    tells("nodeInfo(" + node + ", " + what + ")", () -> box.nodeInfo(node, what), due);
  }

  void slotIs(int fd, int node, int rights, int origin) {
    fdInfo(fd, Doc.FI_NODE, node);
    fdInfo(fd, Doc.FI_RIGHTS, rights);
    fdInfo(fd, Doc.FI_ORIGIN, origin);
  }

  void nodeIs(int node, int kind, int parent, int name) {
    nodeInfo(node, Doc.NI_KIND, kind);
    nodeInfo(node, Doc.NI_PARENT, parent);
    nodeInfo(node, Doc.NI_NAME, name);
  }

  void targetIs(int node, boolean absolute, int... components) {
    nodeInfo(node, Doc.NI_LINKLEN, components.length);
    nodeInfo(node, Doc.NI_LINKABS, absolute ? 1 : 0);
    for (int i = 0; i < 5; i++) {
      nodeInfo(node, Doc.NI_LINKCOMP + i, i < components.length ? components[i] : Doc.E_BADARG);
    }
  }

  void pathIs(boolean absolute, int... components) {
    status(Doc.ST_PATHLEN, components.length);
    status(Doc.ST_PATHABS, absolute ? 1 : 0);
    for (int i = 0; i < 9; i++) {
      status(Doc.ST_PATHCOMP + i, i < components.length ? components[i] : Doc.E_BADARG);
    }
  }
}
