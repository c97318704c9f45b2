import java.util.Map;
import java.util.TreeMap;

/** Long runs of calls on the program and on the model: each answer and all that can be asked must agree. */
public final class ModelTest {
  private static final int RUNS = 400;
  private static final int CALLS = 500;
  private static final int[] ODD = {
    Integer.MIN_VALUE, Integer.MIN_VALUE + 1, -101, -100, -2, -1, 0, 16, 17, 32, 33, 64, Integer.MAX_VALUE
  };

  // A fixed sequence, so that every run of this test makes the same calls.
  private static long state = 1;

  private final CapabilitySandbox box;
  private final Model model;
  private final int names;
  private final Map<String, Integer> answers;
  private String call = "";
  private int got;
  private int due;

  private ModelTest(int maxNodes, int maxFds, int names, Map<String, Integer> answers) {
    this.box = new CapabilitySandbox(maxNodes, maxFds);
    this.model = new Model(maxNodes, maxFds);
    this.names = names;
    this.answers = answers;
  }

  public static void main(String[] args) {
    Map<String, Integer> answers = new TreeMap<>();
    for (int run = 0; run < RUNS; run++) {
      ModelTest test = new ModelTest(pick(36) - 1, pick(20) - 1, 2 + pick(6), answers);
      int capAt = pick(2) == 0 ? CALLS : pick(CALLS);
      for (int i = 0; i < CALLS; i++) {
        if (i == capAt) test.enterCapMode();
        test.callOnce();
        if (!test.agrees("run " + run + ", call " + i)) break;
      }
    }
    meetsEveryAnswer(answers);
    Check.end("ModelTest");
  }

  private static int pick(int bound) {
    state = state * 6364136223846793005L + 1442695040888963407L;
    return (int) ((state >>> 33) % bound);
  }

  private static int oddOr(int usual) {
    return pick(40) == 0 ? ODD[pick(ODD.length)] : usual;
  }

  private int anyFd() {
    return oddOr(pick(3) == 0 ? 0 : pick(Math.max(1, box.status(4))));
  }

  private int anyName() {
    return oddOr(1 + pick(names));
  }

  private static int anyRights() {
    return pick(4) == 0 ? (int) state : oddOr(63);
  }

  private void enterCapMode() {
    box.enterCapMode();
    model.enterCapMode();
  }

  private void callOnce() {
    int choice = pick(100);
    if (choice < 30) loadPath();
    else if (choice < 50) openAt();
    else if (choice < 70) create();
    else if (choice < 75) derive();
    else if (choice < 76) limit();
    else if (choice < 85) close();
    else if (choice < 94) rename();
    else unlink();
  }

  private void loadPath() {
    boolean absolute = pick(4) == 0;
    box.pathReset(absolute);
    model.pathReset(absolute);
    call = "a path of";
    got = 0;
    due = 0;
    for (int left = pick(3) == 0 ? pick(10) : pick(5); left > 0 && got == due; left--) {
      int kind = pick(8);
      int c = kind == 0 ? 0 : kind == 1 ? 16 : anyName();
      call += " " + c;
      got = box.pathPush(c);
      due = model.pathPush(c);
      count("pathPush");
    }
  }

  private void openAt() {
    int fd = pick(12) == 0 ? -100 : anyFd();
    int rights = anyRights();
    call = "openAt(" + fd + ", " + rights + ")";
    got = box.openAt(fd, rights);
    due = model.openAt(fd, rights);
    count("openAt");
  }

  private void create() {
    int fd = anyFd();
    int name = anyName();
    int kind = oddOr(1 + pick(3));
    call = "create(" + fd + ", " + name + ", " + kind + ")";
    got = box.create(fd, name, kind);
    due = model.create(fd, name, kind);
    count("create");
  }

  private void derive() {
    int fd = anyFd();
    int rights = anyRights();
    call = "derive(" + fd + ", " + rights + ")";
    got = box.derive(fd, rights);
    due = model.derive(fd, rights);
    count("derive");
  }

  private void limit() {
    int fd = anyFd();
    int rights = anyRights();
    call = "limit(" + fd + ", " + rights + ")";
    got = box.limit(fd, rights);
    due = model.limit(fd, rights);
    count("limit");
  }

  private void close() {
    int fd = pick(20) == 0 ? anyFd() : 1 + pick(15);
    call = "close(" + fd + ")";
    got = box.close(fd);
    due = model.close(fd);
    count("close");
  }

  private void rename() {
    int fromFd = anyFd();
    int fromName = anyName();
    int toFd = anyFd();
    int toName = anyName();
    call = "rename(" + fromFd + ", " + fromName + ", " + toFd + ", " + toName + ")";
    got = box.rename(fromFd, fromName, toFd, toName);
    due = model.rename(fromFd, fromName, toFd, toName);
    count("rename");
  }

  private void unlink() {
    int fd = anyFd();
    int name = anyName();
    call = "unlink(" + fd + ", " + name + ")";
    got = box.unlink(fd, name);
    due = model.unlink(fd, name);
    count("unlink");
  }

  private void count(String method) {
    answers.merge(method + " " + Math.min(due, 0), 1, Integer::sum);
  }

  private boolean agrees(String where) {
    if (got != due) {
      Check.report(where + ": " + call + " answered " + got + ", due is " + due);
      return false;
    }
    Map<String, Integer> seen = Check.snapshot(box);
    Map<String, Integer> wanted = model.snapshot();
    if (seen.equals(wanted)) return true;
    for (Map.Entry<String, Integer> want : wanted.entrySet()) {
      int value = seen.get(want.getKey());
      if (value != want.getValue()) {
        Check.report(where + ": after " + call + " " + want.getKey() + " is " + value + ", due is " + want.getValue());
      }
    }
    return false;
  }

  /** The runs are worth something only if they come to every kind of answer; 0 stands for all that aren't refusals. */
  private static void meetsEveryAnswer(Map<String, Integer> answers) {
    int[][] due = {
      {0, -10, -14}, {0, -10, -1, -4, -2, -14, -6, -9}, {0, -3, -1, -4, -2, -8, -5, -7, -9}, {0, -1, -9}, {0, -1}, {0, -1},
      {0, -10, -1, -4, -2, -5, -6, -13}, {0, -10, -1, -4, -2, -5, -11, -12}
    };
    String[] methods = {"pathPush", "create", "openAt", "derive", "limit", "close", "rename", "unlink"};
    for (int i = 0; i < methods.length; i++) {
      for (int answer : due[i]) {
        if (!answers.containsKey(methods[i] + " " + answer)) Check.report("no run has " + methods[i] + " answer " + answer);
      }
    }
  }
}
