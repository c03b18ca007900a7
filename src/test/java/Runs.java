import java.io.IOException;
import java.nio.file.Files;
import java.nio.file.Path;
import java.util.ArrayList;
import java.util.Arrays;
import java.util.List;
import java.util.regex.Matcher;
import java.util.regex.Pattern;
import java.util.stream.Collectors;
import java.util.stream.Stream;

/**
 * The runs under src/test/runs. A file holds runs for one promise, NN-name.txt those for promise
 * NN; a run begins with a line "run: what it shows". Before its calls a run may tell which words
 * of the document they show; the words stand in the promise itself, or else in the terms. Each
 * other line is a call with the answer that is due:
 *
 * <pre>
 *   says: -4 below 1;
 *   days(0) = -4
 *   12 times unit(0, -1) = 0 up     (12 calls, each answers one more; # is the number of the call)
 * </pre>
 */
final class Runs {
  private static final Path FOLDER = Path.of("src/test/runs");
  private static final List<String> FAR = List.of("protect", "move", "volunteer", "fit");
  private static final Pattern CALL =
      Pattern.compile("(?:(\\d+) times )?(\\w+)\\(([-\\d, #]*)\\) = (-?\\d+)( up)?");

  /** One call, the answer that is due, and the words of the document that it shows ("" if none). */
  record Call(String name, int[] arguments, int due, String says) {
    /** 1 to 6 for the refusals -1 to -6, 0 for another answer. */
    int refusal() {
      return refusalIn(name, due);
    }

    String text() {
      return Calls.text(name, arguments);
    }
  }

  record Run(String title, List<Call> calls) {
  }

  /** Words of the document that a run quotes, and how many calls follow to show them. */
  static final class Quote {
    final int promise;
    final String words;
    final String where;
    int calls;

    Quote(int promise, String words, String where) {
      this.promise = promise;
      this.words = words;
      this.where = where;
    }
  }

  final List<Run> runs = new ArrayList<>();
  final List<Quote> quotes = new ArrayList<>();
  final List<String> faults = new ArrayList<>();
  private List<Quote> open = new ArrayList<>();

  static int refusalIn(String name, int answer) {
    int told = FAR.contains(name) ? 1000000000 - answer : answer;
    return told <= -1 && told >= -6 ? -told : 0;
  }

  static Runs read() throws IOException {
    List<Path> files;
    try (Stream<Path> list = Files.list(FOLDER)) {
      files = list.sorted().collect(Collectors.toList());
    }
    Runs all = new Runs();
    for (Path file : files) {
      all.readFile(file);
    }
    return all;
  }

  /** One run told as text, without quotes. */
  static Run of(String title, String text) {
    Runs one = new Runs();
    one.runs.add(new Run(title, new ArrayList<>()));
    text.lines().map(line -> line.replaceAll("//.*", "").trim()).filter(line -> !line.isEmpty())
        .forEach(line -> one.readCall(title, line, 0));
    if (!one.faults.isEmpty()) {
      throw new IllegalArgumentException(one.faults.get(0));
    }
    return one.runs.get(0);
  }

  private void readFile(Path file) throws IOException {
    String name = file.getFileName().toString();
    if (!name.matches("\\d\\d-\\w+\\.txt")) {
      faults.add(name + " does not tell which promise it is for");
      return;
    }
    int promise = Integer.parseInt(name.substring(0, 2));
    int number = 0;
    int before = runs.size();
    for (String line : Files.readAllLines(file)) {
      number++;
      String where = name + ":" + number;
      String text = line.replaceAll("//.*", "").trim();
      if (text.startsWith("run:")) {
        open = new ArrayList<>();
        runs.add(new Run(where + " " + text, new ArrayList<>()));
      } else if (text.startsWith("says:")) {
        quote(new Quote(promise, text.substring(5).trim(), where));
      } else if (!text.isEmpty()) {
        readCall(where, text, before);
      }
    }
    if (runs.size() == before) {
      faults.add(name + " holds no run");
    }
  }

  /** Quotes that follow one another are shown by the same calls. */
  private void quote(Quote quote) {
    if (!open.isEmpty() && open.get(open.size() - 1).calls > 0) {
      open = new ArrayList<>();
    }
    open.add(quote);
    quotes.add(quote);
  }

  private void readCall(String where, String text, int before) {
    Matcher call = CALL.matcher(text);
    if (!call.matches() || runs.size() == before) {
      faults.add(where + " is no call of a run: " + text);
      return;
    }
    String says = open.stream().map(quote -> quote.words).collect(Collectors.joining(" / "));
    int times = call.group(1) == null ? 1 : Integer.parseInt(call.group(1));
    for (int i = 0; i < times; i++) {
      String inner = call.group(3).replace("#", Integer.toString(i)).trim();
      int[] arguments = inner.isEmpty() ? new int[0]
          : Arrays.stream(inner.split(",")).map(String::trim).mapToInt(Integer::parseInt).toArray();
      int due = Integer.parseInt(call.group(4)) + (call.group(5) == null ? 0 : i);
      runs.get(runs.size() - 1).calls.add(new Call(call.group(2), arguments, due, says));
      open.forEach(quote -> quote.calls++);
    }
  }
}
