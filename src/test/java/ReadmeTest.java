import java.io.IOException;
import java.lang.reflect.Field;
import java.lang.reflect.Method;
import java.lang.reflect.Modifier;
import java.nio.file.Files;
import java.nio.file.Path;
import java.util.ArrayList;
import java.util.List;
import java.util.function.Predicate;

/**
 * README.md's example is the code of this test, letter for letter, and answers what its comments say;
 * its tables leave out no call and no code.
 */
public final class ReadmeTest {
  private static final String BEGIN = "// README begins";
  private static final String END = "// README ends";

  private static List<String> shown = List.of();

  public static void main(String[] args) throws IOException, ReflectiveOperationException {
    List<String> readme = Files.readAllLines(Path.of("README.md"));
    List<String> source = Files.readAllLines(Path.of("src/test/java/ReadmeTest.java"));
    shown = between(readme, line -> line.equals("```java"), line -> line.equals("```"));
    List<String> run = between(source, line -> line.strip().equals(BEGIN), line -> line.strip().equals(END));
    for (int i = 0; i < run.size(); i++) run.set(i, run.get(i).isEmpty() ? "" : run.get(i).substring(4));
    if (!shown.equals(run)) Check.report("README.md's example is not the one that ReadmeTest runs");
    runExample();
    namesEveryCall(readme);
    namesEveryCode(readme);
    Check.end("ReadmeTest");
  }

  private static List<String> between(List<String> lines, Predicate<String> begin, Predicate<String> end) {
    List<String> found = new ArrayList<>();
    boolean inside = false;
    for (String line : lines) {
      if (inside && end.test(line)) return found;
      if (inside) found.add(line);
      else inside = begin.test(line);
    }
    return found;
  }

  private static void runExample() {
    // README begins
    CapabilitySandbox box = new CapabilitySandbox(32, 8);

    // Slot 0 holds the root directory, with every right.
    int directory = box.create(0, 1, CapabilitySandbox.KIND_DIR);  // 1, the node /1
    int file = box.create(0, 2, CapabilitySandbox.KIND_FILE);      // 2, the node /2

    // A path is loaded one component at a time, and then opened.
    box.pathReset(false);
    int length = box.pathPush(1);                                  // 1, the path's length
    int some = CapabilitySandbox.R_LOOKUP | CapabilitySandbox.R_CREATE;
    int fd = box.openAt(0, some);                                  // 1, a slot that holds /1

    // A link's target is the path that is loaded when it is made: here "../2".
    box.pathReset(false);
    box.pathPush(CapabilitySandbox.COMP_DOTDOT);
    box.pathPush(2);
    int link = box.create(fd, 3, CapabilitySandbox.KIND_LINK);     // 3, the node /1/3

    // The path "3" leads through the link to /2, with no right that fd lacks.
    box.pathReset(false);
    box.pathPush(3);
    int slot = box.openAt(fd, CapabilitySandbox.R_ALL);            // 2, a slot that holds /2
    int node = box.fdInfo(slot, CapabilitySandbox.FI_NODE);        // 2, the node /2
    int rights = box.fdInfo(slot, CapabilitySandbox.FI_RIGHTS);    // 12, R_LOOKUP and R_CREATE

    // From here on, a lookup that starts at fd stays at or below /1.
    int closed = box.close(0);                                     // 0
    box.enterCapMode();
    int outside = box.openAt(fd, CapabilitySandbox.R_ALL);         // -8, E_ESCAPE: the link leads out of /1
    int global = box.openAt(CapabilitySandbox.FD_GLOBAL, -1);      // -3, E_CAPMODE
    int removed = box.unlink(fd, 3);                               // -2, E_NOTCAP: fd lacks R_DELETE

    // A descriptor for someone who may do less.
    int less = box.derive(fd, CapabilitySandbox.R_LOOKUP);         // 0, the lowest closed slot
    int none = box.limit(less, 0);                                 // 0, the rights that are left
    // README ends
    told("directory", directory);
    told("file", file);
    told("length", length);
    told("fd", fd);
    told("link", link);
    told("slot", slot);
    told("node", node);
    told("rights", rights);
    told("closed", closed);
    told("outside", outside);
    told("global", global);
    told("removed", removed);
    told("less", less);
    told("none", none);
  }

  /** The comment behind the variable in README.md begins with the answer that the call gave. */
  private static void told(String variable, int answer) {
    for (String line : shown) {
      if (line.matches("int " + variable + " = [^/]*// " + answer + "(,.*)?")) return;
    }
    Check.report("README.md does not tell that " + variable + " is " + answer);
  }

  private static void namesEveryCall(List<String> readme) {
    for (Method method : CapabilitySandbox.class.getDeclaredMethods()) {
      if (Modifier.isPublic(method.getModifiers())) tabled(readme, "| `" + method.getName() + "(");
    }
  }

  private static void namesEveryCode(List<String> readme) throws ReflectiveOperationException {
    for (Field field : CapabilitySandbox.class.getFields()) {
      String name = field.getName();
      if (name.startsWith("E_")) tabled(readme, "| `" + name + "` | " + field.getInt(null) + " |");
    }
  }

  private static void tabled(List<String> readme, String row) {
    if (readme.stream().noneMatch(line -> line.startsWith(row))) Check.report("README.md has no row " + row);
  }
}
