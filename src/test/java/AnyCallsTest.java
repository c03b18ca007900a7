import java.util.ArrayList;
import java.util.List;

/** Any arguments in any state: no call throws, and the same calls always give the same answers. */
public final class AnyCallsTest {
  private static final int RUNS = Integer.getInteger("runs", 3000);
  private static final int CALLS = 512;
  /** What calls behind the 512th answer is free, but they throw no more than others. */
  private static final int MANY_CALLS = 5000;
  private static final int[] ODD = {
    Integer.MIN_VALUE, Integer.MIN_VALUE + 1, Integer.MIN_VALUE + 10, -1000000000, -20001, -20000, -366, -365, -10, -9, -2, -1,
    8, 9, 10, 11, 12, 13, 16, 17, 19, 20, 21, 39, 40, 41, 49, 50, 51, 59, 60, 61, 90, 99, 100, 101, 119, 120, 180, 200, 201,
    365, 500, 501, 512, 600, 1023, 1024, 2999, 3000, 3001, 9000, 9001, 9999, 10000, 99999, 100000, 1000000000, 2147483646,
    Integer.MAX_VALUE};

  public static void main(String[] args) {
    List<String> names = Calls.names();
    for (int seed = 1; seed <= RUNS; seed++) {
      Draw draw = new Draw(seed);
      PostsEnd one = new PostsEnd();
      PostsEnd other = new PostsEnd();
      List<String> told = new ArrayList<>();
      boolean wild = seed % 3 == 0;
      int calls = seed % 20 == 0 ? MANY_CALLS : CALLS;
      for (int i = 0; i < calls; i++) {
        String name = wild || i > 150 ? names.get(draw.below(names.size())) : builder(draw);
        int[] arguments = wild ? anyArguments(draw, name) : fairArguments(draw, name);
        told.add(Calls.text(name, arguments));
        int got = Calls.ask(one, name, arguments);
        int again = Calls.ask(other, name, arguments);
        if (got != again) {
          told.forEach(System.out::println);
          System.out.println("answered " + got + ", and on another object " + again);
          System.exit(1);
        }
      }
    }
    System.out.println(RUNS + " runs of " + CALLS + " calls and more, none threw");
  }

  private static String builder(Draw draw) {
    String[] builders = {"unit", "post", "post", "post", "person", "person", "person", "tell", "ends", "leaver", "volunteer", "right"};
    return builders[draw.below(builders.length)];
  }

  private static int[] anyArguments(Draw draw, String name) {
    int[] arguments = new int[Calls.parametersOf(name)];
    for (int i = 0; i < arguments.length; i++) {
      int kind = draw.below(6);
      arguments[i] = kind == 0 ? draw.any() : kind == 1 ? ODD[draw.below(ODD.length)] : draw.below(8);
    }
    return arguments;
  }

  /** Arguments that mostly go through, so that everything fills up, with an odd one now and then. */
  private static int[] fairArguments(Draw draw, String name) {
    int[] arguments = fair(draw, name);
    if (arguments.length > 0 && draw.below(30) == 0) {
      arguments[draw.below(arguments.length)] = ODD[draw.below(ODD.length)];
    }
    return arguments;
  }

  private static int[] fair(Draw draw, String name) {
    switch (name) {
      case "post": return new int[] {draw.below(2), draw.below(2), 1 + draw.below(9), 1 + draw.below(40), draw.below(8)};
      case "person": return new int[] {draw.below(41) - 1, draw.below(1024), -draw.below(20001), 100 + draw.below(9900)};
      case "ends": return new int[] {draw.below(4), draw.below(200), 1 + draw.below(40)};
      case "weeks":
        return new int[] {draw.below(4), 1 + draw.below(200), 1 + draw.below(6), 1 + draw.below(50), 1 + draw.below(9999)};
      case "weekOf":
        return new int[] {draw.below(4), 1 + draw.below(200), 1 + draw.below(6), 1 + draw.below(50), 1 + draw.below(9999), draw.below(6)};
      case "days": return new int[] {1 + draw.below(20)};
      case "unit": return new int[] {draw.below(4), draw.below(3) - 1};
      case "tell": return new int[] {draw.below(40), draw.below(2), draw.below(10)};
      default: return small(draw, name);
    }
  }

  private static int[] small(Draw draw, String name) {
    int[] arguments = new int[Calls.parametersOf(name)];
    for (int i = 0; i < arguments.length; i++) {
      arguments[i] = draw.below(i == 0 || draw.below(3) == 0 ? 40 : 5);
      if (i == 0 && arguments.length > 3) {
        arguments[i] = draw.below(3);
      }
    }
    return arguments;
  }
}
