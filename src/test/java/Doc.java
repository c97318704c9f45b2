/** The document's numbers, written a second time, so that no test leans on the program's own. */
interface Doc {
  int KIND_FREE = 0, KIND_DIR = 1, KIND_FILE = 2, KIND_LINK = 3;
  int DOT = 0, UP = 16;
  int R_LOOKUP = 4, R_CREATE = 8, R_RENAME = 16, R_DELETE = 32, R_ALL = 63;
  int FD_GLOBAL = -100;
  int E_BADFD = -1, E_NOTCAP = -2, E_CAPMODE = -3, E_NOTDIR = -4, E_NOENT = -5, E_EXIST = -6, E_LOOP = -7;
  int E_ESCAPE = -8, E_FULL = -9, E_BADARG = -10, E_BUSY = -11, E_NOTEMPTY = -12, E_INVAL = -13, E_TOOLONG = -14;
  int FI_NODE = 0, FI_RIGHTS = 1, FI_ORIGIN = 2;
  int NI_KIND = 0, NI_PARENT = 1, NI_NAME = 2, NI_LINKLEN = 3, NI_LINKABS = 4, NI_LINKCOMP = 8;
  int ST_CAPMODE = 0, ST_PATHLEN = 1, ST_PATHABS = 2, ST_NODES = 3, ST_FDS = 4, ST_MAXNODES = 5, ST_MAXFDS = 6;
  int ST_PATHCOMP = 8;

  /** The general rule that the tests of several promises hold against their own list of conditions. */
  String ORDER = "Where a method lists numbered conditions, they are considered in the order listed; "
      + "the first one that applies gives the answer.";

  /** Off and on, for what has to hold in both modes, or with both flags. */
  static boolean[] both() {
    return new boolean[] {false, true};
  }
}
