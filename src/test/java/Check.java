import java.util.ArrayList;
import java.util.Arrays;
import java.util.LinkedHashMap;
import java.util.List;
import java.util.Map;
import java.util.TreeSet;
import java.util.function.IntSupplier;

/** What the tests share: they count wrong answers here, and end with exit code 1 if there was one. */
final class Check {
  private static int wrong = 0;
  private static String sentence = "";

  private Check() {}

  /** What follows tests this sentence of the document, which a fault is then told with; promise 0 is the general part. */
  static void sentence(int promise, String quoted) {
    sentence = (promise == 0 ? "general part" : "promise " + promise) + ", \"" + quoted + "\": ";
  }

  static void due(String call, int got, int want) {
    if (got != want) report(call + " answered " + got + ", due is " + want);
  }

  /** The call answers as is due; one that throws is a fault like any other, and the test goes on. */
  static void answers(String call, IntSupplier run, int want) {
    try {
      due(call, run.getAsInt(), want);
    } catch (RuntimeException thrown) {
      report(call + " threw " + thrown + ", due is " + want);
    }
  }

  static void report(String fault) {
    wrong++;
    System.out.println(sentence + fault);
  }

  /** The call answers as is due and changes nothing that can be asked. */
  static void unchanged(CapabilitySandbox box, String call, IntSupplier run, int want) {
    changes(box, call, run, want);
  }

  /** The call answers as is due and changes just these values, each told as "key=new value". */
  static void changes(CapabilitySandbox box, String call, IntSupplier run, int want, String... due) {
    Map<String, Integer> before = snapshot(box);
    answers(call, run, want);
    TreeSet<String> got = new TreeSet<>();
    for (Map.Entry<String, Integer> now : snapshot(box).entrySet()) {
      if (!now.getValue().equals(before.get(now.getKey()))) got.add(now.getKey() + "=" + now.getValue());
    }
    TreeSet<String> wanted = new TreeSet<>(Arrays.asList(due));
    if (!got.equals(wanted)) report(call + " changed " + got + ", due is " + wanted);
  }

  /** Everything that status, fdInfo and nodeInfo tell; a component beyond the end reads as E_BADARG. */
  static Map<String, Integer> snapshot(CapabilitySandbox box) {
    Map<String, Integer> seen = new LinkedHashMap<>();
    List<String> general = List.of("cap", "path.len", "path.abs", "nodes", "fds", "maxNodes", "maxFds");
    for (int i = 0; i < general.size(); i++) seen.put(general.get(i), box.status(i));
    for (int i = 0; i < 8; i++) seen.put("path." + i, box.status(8 + i));
    for (int fd = 0; fd < 16; fd++) {
      seen.put("fd" + fd + ".node", box.fdInfo(fd, 0));
      seen.put("fd" + fd + ".rights", box.fdInfo(fd, 1));
      seen.put("fd" + fd + ".origin", box.fdInfo(fd, 2));
    }
    List<String> fields = List.of("kind", "parent", "name", "len", "abs");
    for (int node = 0; node < 32; node++) {
      for (int i = 0; i < fields.size(); i++) seen.put("n" + node + "." + fields.get(i), box.nodeInfo(node, i));
      for (int i = 0; i < 4; i++) seen.put("n" + node + "." + i, box.nodeInfo(node, 8 + i));
    }
    return seen;
  }

  static void path(CapabilitySandbox box, boolean absolute, int... components) {
    box.pathReset(absolute);
    for (int component : components) box.pathPush(component);
  }

  /** Makes a node, which has to succeed, and answers its index. */
  static int make(CapabilitySandbox box, int fd, int name, int kind) {
    int node = box.create(fd, name, kind);
    if (node < 1) report("create(" + fd + ", " + name + ", " + kind + ") answered " + node + ", due is a node");
    return node;
  }

  /** Makes a link with this target and answers its index. */
  static int link(CapabilitySandbox box, int fd, int name, boolean absolute, int... target) {
    path(box, absolute, target);
    return make(box, fd, name, CapabilitySandbox.KIND_LINK);
  }

  /** Opens a relative path, which has to succeed, and answers the slot. */
  static int open(CapabilitySandbox box, int fd, int rights, int... components) {
    path(box, false, components);
    int slot = box.openAt(fd, rights);
    if (slot < 0) report("openAt(" + fd + ", " + rights + ") answered " + slot + ", due is a slot");
    return slot;
  }

  /** Ints beyond every range of the document: near the ends of int, and those that a narrower type would wrap into a range. */
  static int[] farOut() {
    return new int[] {
      Integer.MIN_VALUE, Integer.MIN_VALUE + 1, Integer.MIN_VALUE + 8, -65535, -65536, -1000, -255, -256, -101, -99, -2,
      128, 129, 256, 257, 264, 1000, 32768, 65536, 65537, 65544, 1 << 30,
      Integer.MAX_VALUE - 8, Integer.MAX_VALUE - 1, Integer.MAX_VALUE
    };
  }

  /** These ints, and those that lie far out. */
  static List<Integer> andFarOut(int... near) {
    List<Integer> all = new ArrayList<>();
    for (int value : near) all.add(value);
    for (int value : farOut()) all.add(value);
    return all;
  }

  static void end(String test) {
    System.out.println(wrong == 0 ? test + ": all is as due" : test + ": " + wrong + " wrong");
    if (wrong != 0) System.exit(1);
  }
}
