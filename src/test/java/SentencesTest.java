import java.io.IOException;
import java.nio.file.Files;
import java.nio.file.Path;
import java.util.ArrayList;
import java.util.List;

/**
 * Every word of the document's terms and promises is quoted by a run that shows it (see Runs), and
 * every quote stands in the document: in the promise that the file is for, or else in the terms.
 */
public final class SentencesTest {
  private static final Path DOCUMENT = Path.of("../shared/DOC.md");
  private static final int PROMISES = 36;

  /** One part of the document, and which of its signs are quoted. */
  private static final class Part {
    final String name;
    final String text;
    final boolean[] quoted;

    Part(String name, String text) {
      this.name = name;
      this.text = text;
      this.quoted = new boolean[text.length()];
    }

    /** How often the words stand here; they are taken as quoted if that is once. */
    int take(String words) {
      int first = text.indexOf(words);
      if (first < 0) {
        return 0;
      }
      if (text.indexOf(words, first + 1) >= 0) {
        return 2;
      }
      for (int i = first; i < first + words.length(); i++) {
        quoted[i] = true;
      }
      return 1;
    }

    List<String> leftOver() {
      List<String> left = new ArrayList<>();
      StringBuilder piece = new StringBuilder();
      for (int i = 0; i <= text.length(); i++) {
        if (i < text.length() && !quoted[i]) {
          piece.append(text.charAt(i));
        } else {
          if (piece.toString().matches(".*\\w.*")) {
            left.add(piece.toString().trim());
          }
          piece.setLength(0);
        }
      }
      return left;
    }
  }

  private static int wrong;

  public static void main(String[] args) throws IOException {
    String document = Files.readString(DOCUMENT);
    Part[] parts = new Part[PROMISES + 1];
    parts[0] = new Part("the terms", plain(between(document, "## Terms\n", "## Promise 1:")));
    for (int promise = 1; promise <= PROMISES; promise++) {
      String next = promise == PROMISES ? "## Not promised" : "## Promise " + (promise + 1) + ":";
      String section = between(document, "## Promise " + promise + ":", next);
      parts[promise] = new Part("promise " + promise, plain(section.substring(section.indexOf("`:") + 2)));
    }
    int quotes = 0;
    for (Runs.Quote quote : Runs.read().quotes) {
      take(quote, parts);
      quotes++;
    }
    for (Part part : parts) {
      part.leftOver().forEach(words -> complain("no run shows, of " + part.name + ": " + words));
    }
    System.out.println(quotes + " quotes of the document, " + wrong + " faults");
    System.exit(wrong == 0 ? 0 : 1);
  }

  private static void complain(String what) {
    wrong++;
    System.out.println(what);
  }

  private static String between(String document, String from, String to) {
    int start = document.indexOf(from);
    int end = document.indexOf(to, start);
    if (start < 0 || end < 0) {
      complain("the document has no " + from.trim() + " or no " + to);
      return "`:";
    }
    return document.substring(start + from.length(), end);
  }

  /** Without the marks of its form, each space alone. */
  private static String plain(String text) {
    String bare = text.replaceAll("(?m)^```.*$", "").replaceAll("==== [IVX]+\\.", "");
    return bare.replaceAll("\\s+", " ").trim();
  }

  private static void take(Runs.Quote quote, Part[] parts) {
    String words = quote.words.replaceAll("\\s+", " ");
    int found = quote.promise >= 1 && quote.promise <= PROMISES ? parts[quote.promise].take(words) : 0;
    if (found == 0) {
      found = parts[0].take(words);
    }
    if (words.isEmpty() || found != 1) {
      complain(quote.where + " quotes what does not stand once in its promise or in the terms: " + words);
    }
    if (quote.calls == 0) {
      complain(quote.where + " quotes words, but no call shows them: " + words);
    }
  }
}
