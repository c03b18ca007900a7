import java.io.IOException;
import java.nio.file.Files;
import java.nio.file.Path;
import java.util.ArrayList;
import java.util.Arrays;
import java.util.List;
import java.util.regex.Matcher;
import java.util.regex.Pattern;
import java.util.stream.Collectors;
import java.util.stream.Stream;

/**
 * Plays the runs under src/test/runs. A file holds runs for one promise, a run begins with a line
 * "run: what it shows", and each other line is a call with the answer that is due:
 *
 * <pre>
 *   unit(0, -1) = 0
 *   12 times unit(0, -1) = 0 up     (12 calls, each answers one more; # is the number of the call)
 * </pre>
 *
 * Each run is played twice: as it stands, and with a look at all counts around each call, which
 * shows whether a refusal is counted as what it is and changes nothing else.
 */
public final class RunsTest {
  private static final Path RUNS = Path.of("src/test/runs");
  private static final int PROMISES = 36;
  private static final int COUNTS = 17;
  private static final List<String> FAR = List.of("protect", "move", "volunteer", "fit");
  private static final Pattern CALL =
      Pattern.compile("(?:(\\d+) times )?(\\w+)\\(([-\\d, #]*)\\) = (-?\\d+)( up)?");

  private record Call(String name, int[] arguments, int due) {
    boolean isRefusal() {
      return kind() != 0;
    }

    int kind() {
      int told = FAR.contains(name) ? 1000000000 - due : due;
      return told <= -1 && told >= -6 ? -told : 0;
    }
  }

  private static int wrong;
  private static int asked;

  public static void main(String[] args) throws IOException {
    List<Path> files;
    try (Stream<Path> list = Files.list(RUNS)) {
      files = list.sorted().collect(Collectors.toList());
    }
    for (int promise = 1; promise <= PROMISES; promise++) {
      String start = String.format("%02d-", promise);
      if (files.stream().filter(f -> f.getFileName().toString().startsWith(start)).count() != 1) {
        complain("promise " + promise, "has no file of runs, or more than one");
      }
    }
    for (Path file : files) {
      playFile(file);
    }
    System.out.println(asked + " calls, " + wrong + " not as due");
    System.exit(wrong == 0 ? 0 : 1);
  }

  private static void complain(String where, String what) {
    wrong++;
    System.out.println(where + ": " + what);
  }

  private static void playFile(Path file) throws IOException {
    String title = null;
    List<Call> run = new ArrayList<>();
    int number = 0;
    int runs = 0;
    for (String line : Files.readAllLines(file)) {
      number++;
      String text = line.replaceAll("//.*", "").trim();
      String where = file.getFileName() + ":" + number;
      if (text.startsWith("run:")) {
        play(title, run);
        run.clear();
        title = where + " " + text;
        runs++;
      } else if (!text.isEmpty()) {
        addCalls(where, text, run);
      }
    }
    play(title, run);
    if (runs == 0) {
      complain(file.toString(), "holds no run");
    }
  }

  private static void addCalls(String where, String text, List<Call> run) {
    Matcher call = CALL.matcher(text);
    if (!call.matches()) {
      complain(where, "is no call: " + text);
      return;
    }
    int times = call.group(1) == null ? 1 : Integer.parseInt(call.group(1));
    for (int i = 0; i < times; i++) {
      String inner = call.group(3).replace("#", Integer.toString(i)).trim();
      int[] arguments = inner.isEmpty() ? new int[0]
          : Arrays.stream(inner.split(",")).map(String::trim).mapToInt(Integer::parseInt).toArray();
      int due = Integer.parseInt(call.group(4)) + (call.group(5) == null ? 0 : i);
      run.add(new Call(call.group(2), arguments, due));
    }
  }

  private static void play(String title, List<Call> run) {
    if (run.isEmpty()) {
      return;
    }
    if (run.size() > 512) {
      complain(title, "has more calls than an object is promised for");
    }
    PostsEnd plain = new PostsEnd();
    PostsEnd watched = new PostsEnd();
    for (Call call : run) {
      due(title, call, plain);
      int[] before = counts(watched);
      due(title, call, watched);
      compare(title, call, before, counts(watched));
      asked++;
    }
  }

  private static void due(String title, Call call, PostsEnd object) {
    int got = Calls.ask(object, call.name, call.arguments);
    if (got != call.due) {
      complain(title, Calls.text(call.name, call.arguments) + " answered " + got + ", due is " + call.due);
    }
  }

  private static int[] counts(PostsEnd object) {
    int[] counts = new int[COUNTS];
    for (int what = 0; what < COUNTS; what++) {
      counts[what] = object.count(what);
    }
    return counts;
  }

  private static void compare(String title, Call call, int[] before, int[] after) {
    for (int what = 0; what < COUNTS; what++) {
      int more = call.isRefusal() && what == 10 + call.kind() ? 1 : 0;
      if ((call.isRefusal() || what > 10) && after[what] != before[what] + more) {
        complain(title, Calls.text(call.name, call.arguments) + " made count(" + what + ") " + after[what]
            + " of " + before[what]);
      }
    }
  }
}
