import java.io.IOException;
import java.lang.reflect.Constructor;
import java.lang.reflect.Executable;
import java.lang.reflect.Field;
import java.lang.reflect.Method;
import java.lang.reflect.Modifier;
import java.nio.file.Files;
import java.nio.file.Path;
import java.util.ArrayList;
import java.util.Arrays;
import java.util.List;
import java.util.Set;
import java.util.TreeSet;
import java.util.regex.Matcher;
import java.util.regex.Pattern;

/** The rules of ../shared/LANGUAGE.md that can be read off the source or the class itself. */
public final class LanguageTest {
  private static final Path SOURCE = Path.of("src/main/java/PostsEnd.java");
  private static final Path DOCUMENT = Path.of("../shared/DOC.md");
  private static int wrong;

  public static void main(String[] args) throws IOException {
    String code = withoutComments(Files.readString(SOURCE));
    words(code);
    library(code);
    methodLengths(code);
    face(Files.readString(DOCUMENT));
    for (Class<?> type : types()) {
      members(type);
    }
    System.out.println(wrong == 0 ? "the language is kept to" : wrong + " rules are not kept to");
    System.exit(wrong == 0 ? 0 : 1);
  }

  private static void complain(String what) {
    wrong++;
    System.out.println(what);
  }

  private static String withoutComments(String source) {
    return source.replaceAll("(?s)/\\*.*?\\*/", "").replaceAll("//[^\n]*", "");
  }

  private static void words(String code) {
    String[] barred = {"throw", "throws", "try", "catch", "finally", "synchronized", "assert", "volatile", "native", "default ->",
      "->", "::", "Exact", "Random", "System.out", "System.nano", "System.current", "System.get", "Thread", "hashCode",
      "toString", "Object", "float", "double", "package", "static \\{", "while \\(true\\)", "for \\(;;\\)", "var", "record"};
    for (String word : barred) {
      boolean isName = Character.isLetter(word.charAt(0)) && Character.isLetter(word.charAt(word.length() - 1));
      Pattern pattern = Pattern.compile(isName ? "\\b" + word + "\\b" : word);
      if (pattern.matcher(code).find()) {
        complain("the source has " + word);
      }
    }
    Matcher imports = Pattern.compile("import ([\\w.*]+);").matcher(code);
    while (imports.find()) {
      if (!List.of("java.util.Arrays", "java.util.ArrayList", "java.util.List").contains(imports.group(1))) {
        complain("the source imports " + imports.group(1));
      }
    }
    if (code.chars().anyMatch(c -> c > 126)) {
      complain("the source has signs above 126");
    }
  }

  /** Of the library only functions that rule 4 names, or their like over int and long. */
  private static void library(String code) {
    Set<String> allowed = Set.of("Math.max", "Math.min", "Math.abs", "Math.floorDiv", "Math.floorMod", "Integer.compare",
        "Integer.bitCount", "Long.compare", "Long.bitCount", "Arrays.fill", "Arrays.copyOf", "Arrays.copyOfRange", "System.arraycopy");
    Matcher used = Pattern.compile("\\b(?:Math|StrictMath|Integer|Long|Arrays|System|Character|Boolean|List|Runtime)\\.\\w+")
        .matcher(code.replaceAll("import [^;]*;", ""));
    while (used.find()) {
      if (!allowed.contains(used.group())) {
        complain("the source uses " + used.group());
      }
    }
  }

  private static void methodLengths(String code) {
    int depth = 0;
    int line = 0;
    int start = 0;
    for (String text : code.split("\n", -1)) {
      line++;
      boolean opensMethod = text.matches("\\s+[\\w<>\\[\\] ]+\\(.*\\) \\{") && !text.matches("\\s+(if|for|while|switch|\\}).*");
      if (opensMethod) {
        start = line;
        depth = indent(text);
      } else if (start > 0 && text.matches("\\s*\\}") && indent(text) == depth) {
        if (line - start + 1 > 60) {
          complain("a method of " + (line - start + 1) + " lines ends at line " + line);
        }
        start = 0;
      }
    }
  }

  private static int indent(String text) {
    return text.length() - text.stripLeading().length();
  }

  private static List<Class<?>> types() {
    List<Class<?>> types = new ArrayList<>();
    types.add(PostsEnd.class);
    types.addAll(Arrays.asList(PostsEnd.class.getDeclaredClasses()));
    if (types.size() > 12) {
      complain("there are " + types.size() + " classes");
    }
    return types;
  }

  private static void face(String document) {
    int start = document.indexOf("public final class PostsEnd {");
    String block = document.substring(start, document.indexOf("```", start));
    Set<String> due = new TreeSet<>();
    Matcher signatures = Pattern.compile("public (?:int )?(\\w+)\\(([^)]*)\\);").matcher(block);
    while (signatures.find()) {
      int parameters = signatures.group(2).isBlank() ? 0 : signatures.group(2).split(",").length;
      due.add(signatures.group(1) + "/" + parameters);
    }
    Set<String> is = new TreeSet<>();
    for (Method method : Calls.face(PostsEnd.class).values()) {
      is.add(method.getName() + "/" + method.getParameterCount());
      if (method.getReturnType() != int.class) {
        complain(method.getName() + " does not answer an int");
      }
    }
    for (Constructor<?> constructor : PostsEnd.class.getConstructors()) {
      is.add("PostsEnd/" + constructor.getParameterCount());
    }
    if (!is.equals(due)) {
      complain("the face is " + is + ", due is " + due);
    }
    if (!Modifier.isFinal(PostsEnd.class.getModifiers()) || !Modifier.isPublic(PostsEnd.class.getModifiers())) {
      complain("the class is not public and final");
    }
  }

  private static void members(Class<?> type) {
    boolean isOuter = type == PostsEnd.class;
    Set<String> face = Calls.face(PostsEnd.class).keySet();
    List<Executable> code = new ArrayList<>(Arrays.asList(type.getDeclaredMethods()));
    code.addAll(Arrays.asList(type.getDeclaredConstructors()));
    for (Executable one : code) {
      if (one.getParameterCount() > 7) {
        complain(one + " takes more than seven parameters");
      }
      boolean isPublic = Modifier.isPublic(one.getModifiers());
      if (isOuter && !isPublic && !Modifier.isPrivate(one.getModifiers())) {
        complain(one + " is neither public nor private");
      }
      if (one instanceof Method && (!isOuter || !isPublic) && face.contains(one.getName())) {
        complain(one + " bears the name of a public method");
      }
    }
    fields(type, isOuter);
    if (!isOuter && !Modifier.isStatic(type.getModifiers())) {
      complain(type + " is not static");
    }
  }

  private static void fields(Class<?> type, boolean isOuter) {
    int own = 0;
    for (Field field : type.getDeclaredFields()) {
      boolean isStatic = Modifier.isStatic(field.getModifiers());
      own += isStatic ? 0 : 1;
      if (isStatic && !Modifier.isFinal(field.getModifiers())) {
        complain(field + " is static, but not final");
      }
      if (isOuter && !Modifier.isPrivate(field.getModifiers())) {
        complain(field + " is not private");
      }
    }
    if (own > 20) {
      complain(type + " has " + own + " fields");
    }
  }
}
