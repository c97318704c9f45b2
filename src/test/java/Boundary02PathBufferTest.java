import java.util.Arrays;

/** The boundary sentences of promise 2, each with a test of its own. */
public final class Boundary02PathBufferTest implements Doc {
  private static final int[] FULL = {16, 1, 15, 0, 16, 2, 14, 3};

  public static void main(String[] args) {
    for (boolean capMode : Doc.both()) {
      for (boolean absolute : Doc.both()) {
        resetAlwaysSucceeds(capMode, absolute);
        resetEmpties(capMode, absolute);
        resetChangesNothingElse(capMode, absolute);
        refusesWhatIsNoComponent(capMode, absolute);
        refusesTheNinth(capMode, absolute);
        looksAtTheComponentFirst(capMode, absolute);
        appendsUpToEight(capMode, absolute);
        keepsTheFlag(capMode, absolute);
        refusalKeepsTheBuffer(capMode, absolute);
        pushChangesNothingElse(capMode, absolute);
      }
    }
    dependsOnNoMode();
    Check.end("Boundary02PathBufferTest");
  }

  /** An object with the first so many components of FULL in its path buffer. */
  private static Probe loaded(boolean capMode, boolean absolute, int length) {
    return new Probe(8, 4).inCapMode(capMode).path(absolute, Arrays.copyOf(FULL, length));
  }

  private static void resetAlwaysSucceeds(boolean capMode, boolean absolute) {
    Check.sentence(2, "`pathReset(boolean absolute)` always succeeds.");
    for (boolean flag : Doc.both()) {
      Probe full = loaded(capMode, absolute, 8);
      full.pathPush(1).is(E_TOOLONG);
      full.pathReset(flag).is(0);
      full.pathIs(flag);
      Probe empty = loaded(capMode, absolute, 0);
      empty.pathReset(flag).is(0);
      empty.pathIs(flag);
      empty.pathReset(flag).changes(0);
    }
  }

  private static void resetEmpties(boolean capMode, boolean absolute) {
    Check.sentence(2, "It empties the path buffer and sets its absolute flag to 'absolute'.");
    for (int length = 0; length <= 8; length++) {
      for (boolean flag : Doc.both()) {
        Probe p = loaded(capMode, absolute, length);
        p.pathReset(flag).is(0);
        p.pathIs(flag);
        p.pathPush(9).is(1);
        p.pathIs(flag, 9);
      }
    }
  }

  private static void resetChangesNothingElse(boolean capMode, boolean absolute) {
    Check.sentence(2, "Nothing else changes.");
    Probe p = new Probe(8, 4).link(0, 1, absolute, 4, 5).inCapMode(capMode);
    p.pathReset(absolute).changes(0, "path.len=0", "path.0=-10", "path.1=-10");
    p.pathReset(!absolute).changes(0, "path.abs=" + (absolute ? 0 : 1));
  }

  private static void refusesWhatIsNoComponent(boolean capMode, boolean absolute) {
    Check.sentence(2, "c is outside 0..16: E_BADARG.");
    for (int length : new int[] {0, 1, 7}) {
      Probe p = loaded(capMode, absolute, length);
      for (int c : Check.andFarOut(-1, 17, 18, 31, 32, -16)) p.pathPush(c).is(E_BADARG);
      p.pathPush(16).is(length + 1);
    }
    for (int c = 0; c <= 16; c++) loaded(capMode, absolute, 0).pathPush(c).is(1);
  }

  private static void refusesTheNinth(boolean capMode, boolean absolute) {
    Check.sentence(2, "The buffer already holds 8 components: E_TOOLONG.");
    for (int c = 0; c <= 16; c++) {
      loaded(capMode, absolute, 7).pathPush(c).is(8);
      loaded(capMode, absolute, 8).pathPush(c).is(E_TOOLONG);
    }
  }

  private static void looksAtTheComponentFirst(boolean capMode, boolean absolute) {
    Check.sentence(0, ORDER);
    Probe p = loaded(capMode, absolute, 8);
    for (int c : Check.andFarOut(-1, 17)) p.pathPush(c).is(E_BADARG);
  }

  private static void appendsUpToEight(boolean capMode, boolean absolute) {
    Check.sentence(2, "Otherwise c is appended at the end of the buffer and the new length (1..8) is answered.");
    Probe p = loaded(capMode, absolute, 0);
    for (int i = 0; i < 8; i++) {
      p.pathPush(FULL[i]).changes(i + 1, "path.len=" + (i + 1), "path." + i + "=" + FULL[i]);
    }
    p.pathIs(absolute, FULL);
  }

  private static void keepsTheFlag(boolean capMode, boolean absolute) {
    Check.sentence(2, "The absolute flag is unchanged.");
    for (int length = 0; length <= 8; length++) {
      loaded(capMode, absolute, length).status(ST_PATHABS, absolute ? 1 : 0);
    }
  }

  private static void refusalKeepsTheBuffer(boolean capMode, boolean absolute) {
    Check.sentence(2, "On a refusal the buffer is unchanged.");
    for (int length = 0; length <= 7; length++) {
      Probe p = loaded(capMode, absolute, length);
      p.pathPush(17).is(E_BADARG);
      p.pathIs(absolute, Arrays.copyOf(FULL, length));
      p.pathPush(FULL[length]).is(length + 1);
      p.pathIs(absolute, Arrays.copyOf(FULL, length + 1));
    }
    Probe full = loaded(capMode, absolute, 8);
    full.pathPush(9).is(E_TOOLONG);
    full.pathPush(17).is(E_BADARG);
    full.pathIs(absolute, FULL);
  }

  private static void pushChangesNothingElse(boolean capMode, boolean absolute) {
    Check.sentence(2, "No node, descriptor or mode changes.");
    Probe p = new Probe(8, 4).link(0, 1, absolute, 4, 5).inCapMode(capMode);
    for (int i = 2; i < 8; i++) p.pathPush(6).changes(i + 1, "path.len=" + (i + 1), "path." + i + "=6");
    p.pathPush(6).is(E_TOOLONG);
  }

  private static void dependsOnNoMode() {
    Check.sentence(2, "Neither method depends on capability mode.");
    Probe p = new Probe(8, 4).path(true, 1, 2);
    p.enterCapMode().is(0);
    p.pathPush(16).is(3);
    p.pathIs(true, 1, 2, 16);
    p.pathReset(true).is(0);
    p.pathIs(true);
    p.pathReset(false).is(0);
    p.pathIs(false);
  }
}
