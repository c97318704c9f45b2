import java.lang.reflect.Constructor;
import java.lang.reflect.Field;
import java.lang.reflect.Method;
import java.lang.reflect.Modifier;
import java.util.Set;
import java.util.TreeSet;

/** The public face: these constants, this constructor and these methods, and nothing else that isn't private. */
public final class FaceTest {
  private static final String[] CONSTANTS = {
    "KIND_FREE=0", "KIND_DIR=1", "KIND_FILE=2", "KIND_LINK=3",
    "COMP_DOT=0", "COMP_DOTDOT=16", "NAME_MIN=1", "NAME_MAX=15",
    "R_READ=1", "R_WRITE=2", "R_LOOKUP=4", "R_CREATE=8", "R_RENAME=16", "R_DELETE=32", "R_ALL=63",
    "MAX_PATH=8", "MAX_LINK=4", "MAX_HOPS=8", "FD_GLOBAL=-100",
    "E_BADFD=-1", "E_NOTCAP=-2", "E_CAPMODE=-3", "E_NOTDIR=-4", "E_NOENT=-5", "E_EXIST=-6", "E_LOOP=-7",
    "E_ESCAPE=-8", "E_FULL=-9", "E_BADARG=-10", "E_BUSY=-11", "E_NOTEMPTY=-12", "E_INVAL=-13", "E_TOOLONG=-14",
    "FI_NODE=0", "FI_RIGHTS=1", "FI_ORIGIN=2",
    "NI_KIND=0", "NI_PARENT=1", "NI_NAME=2", "NI_LINKLEN=3", "NI_LINKABS=4", "NI_LINKCOMP=8",
    "ST_CAPMODE=0", "ST_PATHLEN=1", "ST_PATHABS=2", "ST_NODES=3", "ST_FDS=4", "ST_MAXNODES=5", "ST_MAXFDS=6",
    "ST_PATHCOMP=8"
  };
  private static final String[] METHODS = {
    "public void pathReset(boolean)", "public int pathPush(int)", "public int create(int,int,int)",
    "public int openAt(int,int)", "public int derive(int,int)", "public int limit(int,int)",
    "public int close(int)", "public void enterCapMode()", "public int rename(int,int,int,int)",
    "public int unlink(int,int)", "public int status(int)", "public int fdInfo(int,int)",
    "public int nodeInfo(int,int)"
  };

  public static void main(String[] args) throws ReflectiveOperationException {
    same("class modifiers", Set.of(Modifier.toString(CapabilitySandbox.class.getModifiers())), "public final");
    same("constants", constants(), CONSTANTS);
    same("methods", methods(), METHODS);
    same("constructors", constructors(), "public CapabilitySandbox(int,int)");
    Check.due("nested classes", CapabilitySandbox.class.getDeclaredClasses().length, 0);
    Check.end("FaceTest");
  }

  private static Set<String> constants() throws ReflectiveOperationException {
    Set<String> seen = new TreeSet<>();
    for (Field field : CapabilitySandbox.class.getDeclaredFields()) {
      if (Modifier.isPrivate(field.getModifiers())) continue;
      if (field.getModifiers() != (Modifier.PUBLIC | Modifier.STATIC | Modifier.FINAL)) {
        Check.report(field + " is not a public constant");
      } else {
        seen.add(field.getName() + "=" + field.getInt(null));
      }
    }
    return seen;
  }

  private static Set<String> methods() {
    Set<String> seen = new TreeSet<>();
    for (Method method : CapabilitySandbox.class.getDeclaredMethods()) {
      if (!Modifier.isPrivate(method.getModifiers())) seen.add(method.toString().replace("CapabilitySandbox.", ""));
    }
    return seen;
  }

  private static Set<String> constructors() {
    Set<String> seen = new TreeSet<>();
    for (Constructor<?> constructor : CapabilitySandbox.class.getDeclaredConstructors()) seen.add(constructor.toString());
    return seen;
  }

  private static void same(String what, Set<String> got, String... want) {
    Set<String> wanted = new TreeSet<>(Set.of(want));
    if (!new TreeSet<>(got).equals(wanted)) Check.report(what + " are " + got + ", due is " + wanted);
  }
}
