import java.io.IOException;
import java.nio.file.Files;
import java.nio.file.Path;
import java.util.ArrayList;
import java.util.List;
import java.util.Map;
import java.util.TreeMap;
import java.util.regex.Matcher;
import java.util.regex.Pattern;

/** README.md: its example answers what stands beside each call, and its tables name every call and test. */
public final class ReadmeTest {
  private static final Path README = Path.of("README.md");
  private static final Path DOCUMENT = Path.of("../shared/DOC.md");
  private static final Pattern LINE = Pattern.compile("int (\\w+) = firm\\.(\\w+)\\((.*)\\); +// (-?\\d+): .*");
  private static int wrong;

  public static void main(String[] args) throws IOException {
    String readme = Files.readString(README);
    int calls = playExample(readme);
    nameCalls(readme, Files.readString(DOCUMENT));
    nameRefusals(readme);
    nameTests(readme);
    System.out.println("an example of " + calls + " calls, " + wrong + " faults in README.md");
    System.exit(wrong == 0 ? 0 : 1);
  }

  private static void complain(String what) {
    wrong++;
    System.out.println(what);
  }

  private static int playExample(String readme) {
    int start = readme.indexOf("```java\n");
    int end = readme.indexOf("```", start + 3);
    List<String> lines = start < 0 || end < 0 ? List.of()
        : readme.substring(start, end).lines().skip(1).toList();
    if (lines.size() < 2 || !lines.get(0).equals("PostsEnd firm = new PostsEnd();")) {
      complain("README.md has no example that makes an object and calls it");
      return 0;
    }
    PostsEnd firm = new PostsEnd();
    Map<String, Integer> named = new TreeMap<>();
    for (String line : lines.subList(1, lines.size())) {
      Matcher call = LINE.matcher(line);
      if (!call.matches()) {
        complain("no call with its answer: " + line);
        continue;
      }
      int got = Calls.ask(firm, call.group(2), arguments(call.group(3), named));
      named.put(call.group(1), got);
      if (got != Integer.parseInt(call.group(4))) {
        complain("answered " + got + ": " + line);
      }
    }
    return lines.size() - 1;
  }

  private static int[] arguments(String text, Map<String, Integer> named) {
    String[] parts = text.isBlank() ? new String[0] : text.split(", ");
    int[] arguments = new int[parts.length];
    for (int i = 0; i < parts.length; i++) {
      if (parts[i].startsWith("0b")) {
        arguments[i] = Integer.parseInt(parts[i].substring(2), 2);
      } else if (named.containsKey(parts[i])) {
        arguments[i] = named.get(parts[i]);
      } else {
        arguments[i] = Integer.parseInt(parts[i]);
      }
    }
    return arguments;
  }

  private static void nameCalls(String readme, String document) {
    Matcher face = Pattern.compile("public int (\\w+)\\(([^)]*)\\);").matcher(document);
    List<String> names = new ArrayList<>();
    while (face.find()) {
      String call = face.group(1) + "(" + face.group(2).replace("int ", "") + ")";
      names.add(face.group(1));
      if (!readme.contains("\n| `" + call + "` | ")) {
        complain("no row of a table for " + call);
      }
    }
    if (!names.containsAll(Calls.names())) {
      complain("the document's face was not found");
    }
  }

  private static void nameRefusals(String readme) {
    for (int refusal : new int[] {-1, -2, -3, -4, -6}) {
      if (!readme.contains("\n| " + refusal + " | ")) {
        complain("no row of a table for the refusal " + refusal);
      }
    }
  }

  private static void nameTests(String readme) throws IOException {
    try (var files = Files.list(Path.of("src/test/java"))) {
      for (Path file : files.sorted().toList()) {
        String name = file.getFileName().toString().replace(".java", "");
        if (name.endsWith("Test") && !readme.contains("`" + name + "`")) {
          complain("nothing is said of " + name);
        }
      }
    }
  }
}
