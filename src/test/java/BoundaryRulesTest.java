import java.util.List;
import java.util.Map;
import java.util.function.IntSupplier;

/** The general rules of the document, each with a test of its own. */
public final class BoundaryRulesTest implements Doc {
  public static void main(String[] args) {
    refusedCallsChangeNothing();
    openMeansInsideAndOpen();
    for (Probe p : states()) {
      acceptsAnyIntAsASlot(p);
      acceptsAnyIntAsAName(p);
      acceptsAnyIntAsAKind(p);
      acceptsAnyIntAsAComponent(p);
      acceptsAnyIntAsAnIndex(p);
      acceptsAnyIntEverywhereAtOnce(p);
    }
    usesRightsOnlyWithinThoseThatAre();
    rightsAreNeverAdded();
    Check.end("BoundaryRulesTest");
  }

  /** A new object, one that is full, one without an open slot, each in both modes. */
  private static Probe[] states() {
    Probe[] all = new Probe[6];
    for (int i = 0; i < 6; i += 3) {
      all[i] = new Probe(8, 4).inCapMode(i > 0);
      all[i + 1] = full().inCapMode(i > 0);
      all[i + 2] = new Probe(8, 4).inCapMode(i > 0);
      all[i + 2].close(0).is(0);
    }
    return all;
  }

  private static Probe full() {
    Probe p = new Probe(32, 16);
    for (int name = 1; name <= 15; name++) p.create(0, name, name == 1 ? KIND_DIR : KIND_FILE).is(name);
    p.open(0, 1).is(1);
    for (int name = 1; name <= 15; name++) p.create(1, name, name == 1 ? KIND_DIR : KIND_FILE).is(15 + name);
    p.open(1, 1).is(2);
    p.link(2, 1, true, 1, 2, 3, 4);
    for (int fd = 3; fd < 16; fd++) p.derive(0, R_ALL).is(fd);
    return p.path(false, 1, 2, 3, 4, 5, 6, 7, 8);
  }

  private static final String REFUSED = "A refused call answers a negative E_ code and changes nothing.";

  /** Whatever comes after calls that were refused in every way there is, it is as if they had not been made. */
  private static void refusedCallsChangeNothing() {
    Check.sentence(0, REFUSED);
    Script.makesNoDifference(BoundaryRulesTest::refuse, box -> { });
  }

  private static void refuse(Probe p) {
    boolean capMode = p.box.status(ST_CAPMODE) == 1;
    boolean full = p.box.status(ST_NODES) == 8;
    refuseCalls(p, full);
    refusePaths(p, capMode, full);
  }

  private static void refuseCalls(Probe p, boolean full) {
    p.create(0, 9, KIND_FREE).is(E_BADARG);
    p.create(0, 16, KIND_DIR).is(E_BADARG);
    p.create(5, 9, KIND_DIR).is(E_BADFD);
    p.create(2, 9, KIND_DIR).is(E_NOTDIR);
    p.create(1, 9, KIND_DIR).is(E_NOTCAP);
    p.create(0, 2, KIND_DIR).is(E_EXIST);
    if (full) p.create(0, 9, KIND_DIR).is(E_FULL);
    p.derive(5, R_ALL).is(E_BADFD);
    if (full) p.derive(0, R_ALL).is(E_FULL);
    p.limit(5, 0).is(E_BADFD);
    p.close(5).is(E_BADFD);
    p.rename(0, 1, 0, 0).is(E_BADARG);
    p.rename(0, 0, 0, 1).is(E_BADARG);
    p.rename(5, 1, 0, 9).is(E_BADFD);
    p.rename(0, 1, 5, 9).is(E_BADFD);
    p.rename(2, 1, 0, 9).is(E_NOTDIR);
    p.rename(0, 1, 2, 9).is(E_NOTDIR);
    p.rename(1, 1, 0, 9).is(E_NOTCAP);
    p.rename(0, 1, 1, 9).is(E_NOTCAP);
    p.rename(0, 9, 0, 10).is(E_NOENT);
    p.rename(0, 2, 0, 3).is(E_EXIST);
    p.rename(0, 1, 3, 9).is(E_INVAL);
    p.unlink(0, 16).is(E_BADARG);
    p.unlink(5, 2).is(E_BADFD);
    p.unlink(2, 2).is(E_NOTDIR);
    p.unlink(1, 2).is(E_NOTCAP);
    p.unlink(0, 9).is(E_NOENT);
    p.unlink(0, 2).is(E_BUSY);
    p.unlink(0, 5).is(E_NOTEMPTY);
    p.status(7, E_BADARG);
    p.fdInfo(5, FI_NODE, E_BADFD);
    p.fdInfo(0, 3, E_BADARG);
    p.nodeInfo(8, NI_KIND, E_BADARG);
    p.nodeInfo(0, 5, E_BADARG);
  }

  private static void refusePaths(Probe p, boolean capMode, boolean full) {
    p.open(5).is(E_BADFD);
    p.open(2).is(E_NOTDIR);
    p.open(1).is(E_NOTCAP);
    p.open(0, 9).is(E_NOENT);
    p.open(0, 1, 1, 9).is(E_NOENT);
    p.open(0, 2, DOT).is(E_NOTDIR);
    p.open(0, 3).is(E_LOOP);
    if (capMode) p.open(FD_GLOBAL).is(E_CAPMODE);
    if (capMode) p.open(3, 1, UP, UP).is(E_ESCAPE);
    if (full) p.open(0, 1, 1).is(E_FULL);
    p.path(true, 1, 2, 3, 4, 5, 6, 7, 8);
    if (capMode) p.openAt(0, R_ALL).is(E_ESCAPE);
    p.create(0, 9, KIND_LINK).is(E_TOOLONG);
    p.pathPush(17).is(E_BADARG);
    p.pathPush(16).is(E_TOOLONG);
  }

  private static void openMeansInsideAndOpen() {
    Check.sentence(0, "'fd is open' means 0 <= fd < maxFds and slot fd is open.");
    for (int size = 4; size <= 16; size++) {
      Probe p = new Probe(8, size);
      p.create(0, 1, KIND_DIR).is(1);
      for (int fd : new int[] {-1, size, size + 1}) isNotOpen(p, fd);
      for (int fd = 1; fd < size; fd++) {
        isNotOpen(p, fd);
        p.derive(0, R_ALL).is(fd);
      }
      for (int fd : new int[] {-1, size, size + 1}) isNotOpen(p, fd);
      for (int fd = size - 1; fd > 0; fd--) {
        p.limit(fd, R_ALL).is(R_ALL);
        p.create(fd, 2, KIND_FILE).is(2);
        p.rename(fd, 2, fd, 3).is(0);
        p.unlink(fd, 3).is(0);
        p.close(fd).is(0);
        isNotOpen(p, fd);
        p.open(0, 1).is(fd);
      }
    }
  }

  private static void isNotOpen(Probe p, int fd) {
    p.create(fd, 2, KIND_FILE).is(E_BADFD);
    p.openAt(fd, R_ALL).is(E_BADFD);
    p.derive(fd, R_ALL).is(E_BADFD);
    p.limit(fd, R_ALL).is(E_BADFD);
    p.close(fd).is(E_BADFD);
    p.rename(fd, 1, 0, 2).is(E_BADFD);
    p.rename(0, 1, fd, 2).is(E_BADFD);
    p.unlink(fd, 1).is(E_BADFD);
  }

  private static final String ANY_INT = "Any int value is accepted as an argument; values outside the stated ranges "
      + "(negative values and values near Integer.MIN_VALUE or Integer.MAX_VALUE included) are simply out of range "
      + "and lead to the stated error.";

  private static void acceptsAnyIntAsASlot(Probe p) {
    Check.sentence(0, ANY_INT);
    for (int fd : Check.andFarOut(-1, 16, 17)) {
      isNotOpen(p, fd);
      for (int what = 0; what <= 2; what++) p.fdInfo(fd, what, E_BADFD);
    }
    for (int fd : new int[] {FD_GLOBAL - 1, FD_GLOBAL + 1, -FD_GLOBAL}) isNotOpen(p, fd);
  }

  private static void acceptsAnyIntAsAName(Probe p) {
    Check.sentence(0, ANY_INT);
    for (int name : Check.andFarOut(-1, 0, 16, 17)) {
      for (int kind = 1; kind <= 3; kind++) p.create(0, name, kind).is(E_BADARG);
      p.rename(0, name, 0, 2).is(E_BADARG);
      p.rename(0, 1, 0, name).is(E_BADARG);
      p.unlink(0, name).is(E_BADARG);
    }
  }

  private static void acceptsAnyIntAsAKind(Probe p) {
    Check.sentence(0, ANY_INT);
    for (int kind : Check.andFarOut(-1, 0, 4, 5)) p.create(0, 1, kind).is(E_BADARG);
  }

  private static void acceptsAnyIntAsAComponent(Probe p) {
    Check.sentence(0, ANY_INT);
    for (int c : Check.andFarOut(-1, 17)) p.pathPush(c).is(E_BADARG);
  }

  private static void acceptsAnyIntAsAnIndex(Probe p) {
    Check.sentence(0, ANY_INT);
    for (int odd : Check.andFarOut(-1, 32, 33)) {
      for (int what = 0; what <= 12; what++) p.nodeInfo(odd, what, E_BADARG);
      for (int node = 0; node < 32; node++) p.tells("nodeInfo(" + node + ", " + odd + ")", asked(p, node, odd), E_BADARG);
      p.status(odd, E_BADARG);
    }
    for (int what : Check.andFarOut(-1, 3)) p.fdInfo(0, what, E_BADARG);
  }

  private static IntSupplier asked(Probe p, int node, int what) {
    return () -> p.box.nodeInfo(node, what);
  }

  private static void acceptsAnyIntEverywhereAtOnce(Probe p) {
    Check.sentence(0, ANY_INT);
    List<Integer> odd = Check.andFarOut(-1, 0, 1, 16, 17);
    Map<String, Integer> before = Check.snapshot(p.box);
    for (int first : odd) {
      for (int second : odd) {
        if (first != 0 && first != 1) {
          Check.due("openAt", p.box.openAt(first, second), E_BADFD);
          Check.due("derive", p.box.derive(first, second), E_BADFD);
          Check.due("limit", p.box.limit(first, second), E_BADFD);
          Check.due("fdInfo", p.box.fdInfo(first, second), E_BADFD);
        }
        if (second != 1) Check.due("unlink", p.box.unlink(first, second), E_BADARG);
        for (int third : odd) {
          if (second != 1 || third != 1) Check.due("create", p.box.create(first, second, third), E_BADARG);
          if (second != 1) Check.due("rename", p.box.rename(first, second, third, first), E_BADARG);
          if (second != 1) Check.due("rename", p.box.rename(first, 1, third, second), E_BADARG);
        }
      }
    }
    if (!Check.snapshot(p.box).equals(before)) Check.report("arguments that are all out of range changed something");
  }

  private static final String RIGHTS = "A rights argument may be any int; only its intersection with existing rights is ever used.";

  private static void usesRightsOnlyWithinThoseThatAre() {
    Check.sentence(0, RIGHTS);
    for (int rights : Check.andFarOut(-1, 0, 1, 62, 63, 64, 65, 127, -63, -64, -65)) {
      Probe p = new Probe(8, 5);
      p.limit(0, 45).is(45);
      p.openAt(0, rights).is(1);
      p.openAt(FD_GLOBAL, rights).is(2);
      p.derive(0, rights).is(3);
      p.slotIs(1, 0, rights & 45, 0);
      p.slotIs(2, 0, rights & 63, -1);
      p.slotIs(3, 0, rights & 45, 0);
      p.limit(0, rights).is(rights & 45);
      p.slotIs(0, 0, rights & 45, -1);
    }
  }

  private static void rightsAreNeverAdded() {
    Check.sentence(0, "Deriving, opening and limiting descriptors can only intersect rights, never add them.");
    for (int bit = 1; bit < 64; bit *= 2) {
      Probe p = new Probe(8, 5);
      int without = R_ALL - bit;
      p.limit(0, without).is(without);
      p.derive(0, R_ALL).is(1);
      p.derive(1, -1).is(2);
      p.slotIs(2, 0, without, 1);
      p.limit(2, -1).is(without);
      if (bit == R_LOOKUP) continue;
      p.open(2).is(3);
      p.slotIs(3, 0, without, 2);
      p.limit(3, R_ALL).is(without);
    }
  }
}
