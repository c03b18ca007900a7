import java.io.IOException;

/**
 * Plays the runs under src/test/runs (see Runs). Each run is played three times: as it stands;
 * with a look at all counts around each call, which shows whether a refusal is counted as what it
 * is; and without its refusals, which shows whether they changed anything else.
 */
public final class RunsTest {
  private static final int COUNTS = 17;
  private static final int FIRST_REFUSAL = 11;

  private static int wrong;
  private static int asked;

  public static void main(String[] args) throws IOException {
    Runs all = Runs.read();
    all.faults.forEach(RunsTest::complain);
    for (Runs.Run run : all.runs) {
      if (run.calls().isEmpty() || run.calls().size() > 512) {
        complain(run.title() + ": no call, or more than an object is promised for");
      }
      playPlain(run);
      playWatched(run);
      playWithoutRefusals(run);
    }
    System.out.println(all.runs.size() + " runs, " + asked + " calls, " + wrong + " not as due");
    System.exit(wrong == 0 ? 0 : 1);
  }

  private static void complain(String what) {
    wrong++;
    System.out.println(what);
  }

  private static void complain(Runs.Run run, Runs.Call call, String what) {
    complain(run.title() + ": " + call.text() + " " + what + (call.says().isEmpty() ? "" : " (" + call.says() + ")"));
  }

  private static void playPlain(Runs.Run run) {
    PostsEnd object = new PostsEnd();
    for (Runs.Call call : run.calls()) {
      int got = Calls.ask(object, call.name(), call.arguments());
      if (got != call.due()) {
        complain(run, call, "answered " + got + ", due is " + call.due());
      }
      asked++;
    }
  }

  private static void playWatched(Runs.Run run) {
    PostsEnd object = new PostsEnd();
    for (Runs.Call call : run.calls()) {
      int[] before = counts(object);
      int got = Calls.ask(object, call.name(), call.arguments());
      int[] after = counts(object);
      int refusal = Runs.refusalIn(call.name(), got);
      for (int what = 0; what < COUNTS; what++) {
        int more = refusal > 0 && what == FIRST_REFUSAL - 1 + refusal ? 1 : 0;
        if ((refusal > 0 || what >= FIRST_REFUSAL) && after[what] != before[what] + more) {
          complain(run, call, "made count(" + what + ") " + after[what] + " of " + before[what]);
        }
      }
    }
  }

  private static int[] counts(PostsEnd object) {
    int[] counts = new int[COUNTS];
    for (int what = 0; what < COUNTS; what++) {
      counts[what] = object.count(what);
    }
    return counts;
  }

  private static void playWithoutRefusals(Runs.Run run) {
    PostsEnd object = new PostsEnd();
    for (Runs.Call call : run.calls()) {
      boolean asksRefusals = call.name().equals("count") && call.arguments()[0] >= FIRST_REFUSAL;
      if (call.refusal() == 0 && !asksRefusals) {
        int got = Calls.ask(object, call.name(), call.arguments());
        if (got != call.due()) {
          complain(run, call, "answered " + got + " without the refusals ahead of it, due is " + call.due());
        }
      }
    }
  }
}
