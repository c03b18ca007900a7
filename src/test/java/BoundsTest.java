import java.util.ArrayList;
import java.util.Arrays;
import java.util.List;

/**
 * Every call with every mix of arguments at, below and above their bounds. Of several refusals that
 * fit, the one that the document tells first is due; whatever is refused, nothing changes but how
 * many refusals there were; and what is not refused is answered, and changes all, as in the model.
 */
public final class BoundsTest {
  private static final int MIN = Integer.MIN_VALUE;
  private static final int MAX = Integer.MAX_VALUE;
  /** So many refusals are tried on one object, so that all its calls stay below 512. */
  private static final int REFUSED_AT_ONCE = 90;
  private static final int CALLS = 512;
  private static final int COUNTS = 17;

  /** No such move: a refusal -1 that the document tells behind the others. */
  private static final int NO_MOVE = -101;

  /** A value for an argument, and the refusal that it brings by itself; 0 for none. */
  private record Try(int value, int refusal) {
  }

  private record Ask(String name, int[] arguments) {
    String text() {
      return Calls.text(name, arguments);
    }
  }

  private static int wrong;
  private static int refused;
  private static int taken;

  private final Runs.Run state;
  private final List<Ask> asks = new ArrayList<>();
  private final List<Integer> dues = new ArrayList<>();

  private BoundsTest(Runs.Run state) {
    this.state = state;
  }

  public static void main(String[] args) {
    new BoundsTest(States.SOME).trySome();
    tryFull();
    System.out.println(refused + " calls refused as due, " + taken + " answered as by the model, " + wrong + " faults");
    System.exit(wrong == 0 && refused > 0 && taken > 0 ? 0 : 1);
  }

  private static void complain(String what) {
    wrong++;
    if (wrong < 50) {
      System.out.println(what);
    }
  }

  // ---- what is tried for an argument

  private static Try[] numbers(int least, int most) {
    return new Try[] {new Try(MIN, -4), new Try(least - 1, -4), new Try(least, 0), new Try(most, 0), new Try(most + 1, -6),
      new Try(MAX, -6)};
  }

  private static Try[] others(int least, int most, int... fine) {
    return and(only(fine), new Try(MIN, -2), new Try(least - 1, -2), new Try(most + 1, -2), new Try(MAX, -2));
  }

  private static Try[] nobody(int least, int most, int... fine) {
    return and(only(fine), new Try(MIN, -1), new Try(least - 1, -1), new Try(most + 1, -1), new Try(MAX, -1));
  }

  private static Try[] only(int... fine) {
    return Arrays.stream(fine).mapToObj(value -> new Try(value, 0)).toArray(Try[]::new);
  }

  private static Try[] all(int refusal, int... values) {
    return Arrays.stream(values).mapToObj(value -> new Try(value, refusal)).toArray(Try[]::new);
  }

  private static Try[] and(Try[] some, Try... more) {
    Try[] both = Arrays.copyOf(some, some.length + more.length);
    System.arraycopy(more, 0, both, some.length, more.length);
    return both;
  }

  // ---- every mix of them

  /** Tries all mixes of the arguments of a call whose refusals are told in this order. */
  private void row(String name, String order, Try[]... arguments) {
    rowBehind(name, order, 0, arguments);
  }

  /** The same, where one more refusal fits whatever the arguments are: there is no room. */
  private void rowBehind(String name, String order, int always, Try[]... arguments) {
    int[] at = new int[arguments.length];
    boolean more = true;
    while (more) {
      mix(name, order, always, arguments, at);
      more = false;
      for (int i = 0; i < at.length && !more; i++) {
        at[i]++;
        more = at[i] < arguments[i].length;
        at[i] = more ? at[i] : 0;
      }
    }
    tryRefused();
  }

  private void mix(String name, String order, int always, Try[][] arguments, int[] at) {
    int[] values = new int[at.length];
    int due = always;
    for (int i = 0; i < at.length; i++) {
      Try one = arguments[i][at[i]];
      values[i] = one.value;
      due = firstOf(order, due, one.refusal);
    }
    if (due == 0) {
      tryTaken(new Ask(name, values));
    } else {
      asks.add(new Ask(name, values));
      dues.add(due % 100);
    }
    if (asks.size() >= REFUSED_AT_ONCE) {
      tryRefused();
    }
  }

  private static int firstOf(String order, int one, int other) {
    if (one == 0 || other == 0) {
      return one == 0 ? other : one;
    }
    List<String> told = List.of(order.split(" "));
    int placeOfOne = told.indexOf(Integer.toString(one));
    int placeOfOther = told.indexOf(Integer.toString(other));
    if (placeOfOne < 0 || placeOfOther < 0) {
      throw new IllegalArgumentException(order + " does not tell " + one + " or " + other);
    }
    return placeOfOne < placeOfOther ? one : other;
  }

  // ---- what is refused

  private void tryRefused() {
    int before = wrong;
    refuseAll(asks, dues);
    if (wrong > before && asks.size() > 1) {
      for (int i = 0; i < asks.size(); i++) {
        refuseAll(asks.subList(i, i + 1), dues.subList(i, i + 1));
      }
    }
    refused += asks.size();
    asks.clear();
    dues.clear();
  }

  private void refuseAll(List<Ask> some, List<Integer> due) {
    PostsEnd object = made();
    int[] counted = new int[COUNTS];
    for (int what = 0; what < counted.length; what++) {
      counted[what] = object.count(what);
    }
    for (int i = 0; i < some.size(); i++) {
      Ask ask = some.get(i);
      int got = Calls.ask(object, ask.name, ask.arguments);
      if (Runs.refusalIn(ask.name, got) != -due.get(i)) {
        complain(state.title() + ": " + ask.text() + " answered " + got + ", due is the refusal " + due.get(i));
      }
      counted[10 - due.get(i)]++;
    }
    for (int what = 0; what < counted.length; what++) {
      if (object.count(what) != counted[what]) {
        complain(state.title() + ": count(" + what + ") is " + object.count(what) + " behind "
            + (some.isEmpty() ? "nothing" : some.get(0).text()) + " and " + (some.size() - 1) + " more, due is " + counted[what]);
      }
    }
    compare(object, made(), some);
  }

  // ---- what is taken

  private void tryTaken(Ask ask) {
    taken++;
    PostsEnd object = made();
    int got = Calls.ask(object, ask.name, ask.arguments);
    if (Runs.refusalIn(ask.name, got) != 0) {
      complain(state.title() + ": " + ask.text() + " answered " + got + ", due is no refusal");
    }
    if (isTooMuchForTheModel(ask)) {
      compare(object, made(), List.of(ask));
      return;
    }
    Model model = new Model();
    state.calls().forEach(call -> Calls.ask(model, call.name(), call.arguments()));
    int want = Calls.ask(model, ask.name, ask.arguments);
    if (got != want) {
      complain(state.title() + ": " + ask.text() + " answered " + got + ", the model says " + want);
    }
    compare(object, model, List.of(ask));
  }

  /** The model tries all partings one by one. */
  private static boolean isTooMuchForTheModel(Ask ask) {
    boolean parts = ask.name.equals("weeks") || ask.name.equals("weekOf");
    return parts && ask.arguments[2] > 2 && ask.arguments[1] / ask.arguments[3] > 20;
  }

  // ---- what is there

  private PostsEnd made() {
    PostsEnd object = new PostsEnd();
    for (Runs.Call call : state.calls()) {
      int got = Calls.ask(object, call.name(), call.arguments());
      if (got != call.due()) {
        complain(state.title() + ": " + call.text() + " answered " + got + ", due is " + call.due());
      }
    }
    return object;
  }

  private void compare(PostsEnd object, Object other, List<Ask> behind) {
    List<Ask> readings = readings(object);
    if (state.calls().size() + 2 * COUNTS + behind.size() + 3 + readings.size() > CALLS) {
      complain(state.title() + ": more calls than an object is promised for");
    }
    for (Ask ask : readings) {
      int got = Calls.ask(object, ask.name, ask.arguments);
      int want = Calls.ask(other, ask.name, ask.arguments);
      if (got != want) {
        complain(state.title() + ": " + ask.text() + " answered " + got + ", due is " + want + ", behind "
            + (behind.isEmpty() ? "nothing" : behind.get(0).text()) + " and " + (behind.size() - 1) + " more");
        return;
      }
    }
  }

  /** Calls that read out all that an object keeps; the last of them change it, as they answer what it was. */
  private static List<Ask> readings(PostsEnd object) {
    List<Ask> readings = new ArrayList<>();
    int people = object.count(5);
    int posts = object.count(2);
    for (int what = 0; what <= 10; what++) {
      add(readings, "count", what);
    }
    for (int one = 0; one < people; one += Math.max(1, people / 6)) {
      add(readings, "mark", one, 0, 4);
      add(readings, "mark", one, 3000, 4);
      add(readings, "chainOf", one, 0, 3);
      add(readings, "severance", one);
      add(readings, "fit", one, posts - 1);
      add(readings, "chosen", 0, 0, 1, one);
      add(readings, "turning", 0, 0, 1, one, 0);
    }
    for (int post = 0; post < posts; post += Math.max(1, posts / 6)) {
      add(readings, "poolOf", 0, post);
      add(readings, "poolOf", 1, post);
      add(readings, "back", post);
    }
    for (int i = 0; i < 4; i++) {
      add(readings, "cut", 0, 0, 40, i);
      add(readings, "offered", i);
      add(readings, "notice", i, object.count(0));
      add(readings, "weeks", i, 19, 2, 1, 1);
    }
    add(readings, "choice", 0, 0, 1, 1);
    add(readings, "offers", 2);
    add(readings, "moved", 0, 0, 1, 0, 0);
    addChanges(readings, people, posts, object.count(7));
    return readings;
  }

  private static void addChanges(List<Ask> readings, int people, int posts, int tellings) {
    for (int i = 0; i < 3; i++) {
      add(readings, "set", i, i == 2 ? 100 : 0);
    }
    for (int i = 0; i < 4; i++) {
      add(readings, "weight", i, 0);
    }
    for (int one = 0; one < people; one += Math.max(1, people / 10)) {
      add(readings, "protect", one, -1);
      add(readings, "volunteer", one, -1);
      add(readings, "leaver", one);
      add(readings, "move", one, -1);
      add(readings, "leave", one);
    }
    for (int telling = 0; telling < tellings; telling += Math.max(1, tellings / 6)) {
      add(readings, "right", telling, 1);
    }
    for (int post = 0; post < posts; post += Math.max(1, posts / 6)) {
      add(readings, "end", post);
    }
    add(readings, "clear");
    add(readings, "unit", 0, -1);
    add(readings, "post", 0, 0, 1, 1, 0);
    add(readings, "person", -1, 0, 0, 500);
    add(readings, "tell", 0, 0, 0);
    add(readings, "ends", 0, 0, 1);
    add(readings, "days", 1);
  }

  private static void add(List<Ask> readings, String name, int... arguments) {
    readings.add(new Ask(name, arguments));
  }

  // ---- the calls, each with its refusals in the order in which the document tells them

  private void trySome() {
    Try[] unit = nobody(0, 1, 0, 1);
    Try[] post = nobody(0, 4, 0, 1, 2, 3, 4);
    Try[] person = nobody(0, 4, 0, 1, 2, 3, 4);
    Try[] personHere = and(nobody(0, 4, 0, 1, 2, 4), new Try(3, -3));
    row("days", "-4 -6", numbers(1, 2995));
    row("unit", "-1 -4 -6", numbers(0, 3), nobody(-1, 1, -1, 0, 1));
    row("post", "-1 -4 -6", unit, numbers(0, 7), numbers(1, 9), numbers(1, 40), numbers(0, 1023));
    row("end", "-1 -3", and(nobody(0, 4, 0, 1, 3, 4), new Try(2, -3)));
    row("set", "-2 -4 -6", others(0, 2, 0), numbers(0, 10));
    row("set", "-2 -4 -6", only(1), numbers(0, 5));
    row("set", "-2 -4 -6", only(2), numbers(100, 9999));
    row("person", "-1 -3 -4 -6", and(nobody(-1, 4, -1, 1), all(-3, 0, 2, 3)), numbers(0, 1023), numbers(-20000, 5), numbers(100, 9999));
    row("protect", "-1 -4 -6", person, numbers(-1, 9000));
    row("move", "-1 -3", personHere, and(nobody(-1, 4, -1, 1), new Try(2, -3)));
    row("move", "-1 -3", and(only(0), all(-3, 1, 2, 4)), only(0));
    row("move", "-1 -3", and(only(1), all(-3, 0, 2, 4)), only(3));
    row("leave", "-1 -3", personHere);
    row("weight", "-2 -4 -6", others(0, 3, 0, 1, 2, 3), numbers(0, 20));
    row("tell", "-1 -2 -4 -6", person, others(0, 1, 0), numbers(0, 100));
    row("tell", "-1 -2 -4 -6", person, only(1), numbers(0, 9));
    row("right", "-1 -4 -6", nobody(0, 2, 0, 2), numbers(0, 100));
    row("right", "-1 -4 -6", only(1), numbers(0, 9));
    row("mark", "-1 -2 -4 -6", person, numbers(0, 3000), others(0, 4, 0, 1, 2, 3, 4));
    row("pools", "-1", unit);
    row("poolOf", "-1", unit, post);
    tryPools(unit, person);
    tryChains();
    tryOffers(person, post);
    tryPlaces();
    row("back", "-1 -3", and(nobody(0, 4, 1), all(-3, 0, 2, 3, 4)));
    row("count", "", only(MIN, MIN + 10, -1, 0, 9, 10, 11, 16, 17, MAX));
  }

  private void tryPools(Try[] unit, Try[] person) {
    Try[] ofTheFirst = nobody(0, 1, 0);
    row("cut", "-1 -4 -6", unit, nobody(0, 1, 0, 1), numbers(0, 40), only(MIN, -1, 0, 1, MAX));
    row("volunteer", "-1 -3 -4 -6", and(nobody(0, 4, 0, 1, 2, 4), new Try(3, -3)), numbers(-1, 99999));
    row("severance", "-1", person);
    row("choice", "-1 -2 -4 -6", nobody(0, 1, 0), ofTheFirst, numbers(0, 2), others(0, 1, 0, 1));
    row("choice", "-1 -2 -4 -6", only(0), only(1), numbers(0, 1), others(0, 1, 0, 1));
    row("chosen", "-1 -4 -6", nobody(0, 1, 0), ofTheFirst, numbers(0, 2), person);
    row("chosen", "-1 -4 -6", only(1), nobody(0, 1, 0, 1), numbers(0, 1), person);
    // 4 is protected, 1 is of another pool, 2 and 3 are of none
    row("turning", "-1 -2 -4 -6", nobody(0, 1, 0), ofTheFirst, numbers(0, 40), and(nobody(0, 4, 0), all(-1, 1, 2, 3, 4)),
        others(0, 3, 0, 1, 2, 3));
    row("moved", "-1 -4 -6", unit, nobody(0, 1, 0, 1), numbers(0, 40), nobody(0, 2, 0, 2), numbers(0, 100));
    row("moved", "-1 -4 -6", unit, nobody(0, 1, 0, 1), numbers(0, 40), only(1), numbers(0, 9));
  }

  private void tryChains() {
    Try[] holder = and(nobody(0, 4, 0, 1, 4), all(-3, 2, 3));
    row("chain", "-1 -3", holder);
    // the chain of 4 has one move, that of 0 none
    String order = "-1 -2 -3 " + NO_MOVE;
    row("chainOf", order, and(nobody(0, 4, 4), all(-3, 2, 3)), and(only(0), all(NO_MOVE, MIN, -1, 1, MAX)), others(0, 3, 0, 1, 2));
    row("chainOf", order, only(0), all(NO_MOVE, MIN, -1, 0, 1, MAX), others(0, 3, 0, 1, 2));
    row("chainOf", order, holder, only(MIN, -1, 0, 1, MAX), only(3));
    row("leaver", "-1 -3", and(nobody(0, 4, 1, 4), all(-3, 0, 2, 3)));
  }

  private void tryOffers(Try[] person, Try[] post) {
    row("clear", "");
    row("fit", "-1", person, post);
    row("offers", "-2", others(0, 2, 0, 1, 2));
    row("offered", "-1", nobody(0, 1, 0, 1));
  }

  private void tryPlaces() {
    Try[] place = nobody(0, 3, 0, 3);
    row("ends", "-1 -4 -6", place, numbers(0, 3000), numbers(1, 500));
    row("notice", "-1 -4 -6", place, numbers(0, 3000));
    row("weeks", "-1 -4 -6", place, numbers(1, 200), numbers(1, 6), numbers(1, 50), numbers(1, 9999));
    Try[] m = numbers(1, 200);
    Try[] step = numbers(1, 50);
    Try[] pay = numbers(1, 9999);
    row("weekOf", "-1 -4 -6", place, m, only(6), step, pay, nobody(0, 5, 0, 5));
    row("weekOf", "-1 -4 -6", place, m, only(1), step, pay, nobody(0, 0, 0));
    row("weekOf", "-1 -4 -6", nobody(0, 3, 0), m, all(-6, 7), step, pay, nobody(0, 6, 0, 6));
    row("weekOf", "-1 -4 -6", nobody(0, 3, 0), m, all(-6, MAX), step, pay, and(only(0, MAX - 1), all(-1, MIN, -1, MAX)));
    // where there are no weeks, none is such a week
    row("weekOf", "-1 -4 -6", nobody(0, 3, 0), m, all(-4, MIN, -1, 0), step, pay, all(-1, MIN, -1, 0, 1, MAX));
  }

  /** No room is told as the last of all, so whatever else fits goes before it. */
  private static void tryFull() {
    new BoundsTest(States.FULL_UNITS).rowBehind("unit", "-1 -4 -6", -6, numbers(0, 3), nobody(-1, 11, -1, 0, 11));
    new BoundsTest(States.FULL_POSTS).rowBehind("post", "-1 -4 -6", -6, nobody(0, 0, 0), numbers(0, 7), numbers(1, 9), numbers(1, 40),
        numbers(0, 1023));
    new BoundsTest(States.FULL_PEOPLE).rowBehind("person", "-1 -3 -4 -6", -6, and(nobody(-1, 2, -1, 1), all(-3, 0, 2)), numbers(0, 1023),
        numbers(-20000, 0), numbers(100, 9999));
    new BoundsTest(States.FULL_TELLINGS).rowBehind("tell", "-1 -2 -4 -6", -6, nobody(0, 0, 0), others(0, 1, 0, 1), numbers(0, 9));
    BoundsTest rights = new BoundsTest(States.FULL_RIGHTS);
    rights.rowBehind("right", "-1 -4 -6", -6, nobody(0, 1, 0), numbers(0, 100));
    rights.rowBehind("right", "-1 -4 -6", -6, nobody(0, 1, 1), numbers(0, 9));
    rights.row("moved", "-1 -4 -6", nobody(0, 0, 0), nobody(0, 0, 0), numbers(0, 40), nobody(0, 1, 0), numbers(0, 100));
    new BoundsTest(States.FULL_ENDS).rowBehind("ends", "-1 -4 -6", -6, nobody(0, 3, 0, 1, 2, 3), numbers(0, 3000), numbers(1, 500));
    new BoundsTest(States.FULL_LEAVERS).rowBehind("leaver", "-1 -3 -6", -6, and(nobody(0, 10, 8), all(-3, 0, 7, 9, 10)));
    BoundsTest last = new BoundsTest(States.LAST_DAY);
    last.row("days", "-4 -6", and(all(-4, MIN, -1, 0), all(-6, 1, 2, 3000, MAX)));
    last.row("person", "-1 -3 -4 -6", only(-1), numbers(0, 1023), numbers(-20000, 3000), numbers(100, 9999));
    last.row("mark", "-1 -2 -4 -6", nobody(0, 0, 0), numbers(0, 3000), others(0, 4, 0, 1, 2, 3, 4));
    tryCrowds();
    tryLastNumbers();
  }

  /** Where all numbers are given, the last of them is there, and the next one is not. */
  private static void tryLastNumbers() {
    BoundsTest units = new BoundsTest(States.FULL_UNITS);
    units.row("pools", "-1", nobody(0, 11, 0, 11));
    units.row("post", "-1 -4 -6", nobody(0, 11, 0, 11), only(0), only(1), only(1), only(0));
    BoundsTest posts = new BoundsTest(States.FULL_POSTS);
    posts.row("end", "-1 -3", and(nobody(0, 39, 0, 39), new Try(7, -3)));
    posts.row("poolOf", "-1", nobody(0, 0, 0), nobody(0, 39, 0, 7, 39));
    posts.row("person", "-1 -3", and(nobody(-1, 39, 0, 39), new Try(7, -3)), only(0), only(0), only(500));
    posts.row("back", "-1 -3", and(nobody(0, 39, 0, 39), new Try(7, -3)));
    BoundsTest people = new BoundsTest(States.FULL_PEOPLE);
    Try[] person = nobody(0, 39, 0, 39);
    people.row("protect", "-1", person, only(0));
    people.row("move", "-1 -3", and(person, new Try(5, -3)), and(nobody(-1, 2, 1), new Try(2, -3)));
    people.row("leave", "-1 -3", and(person, new Try(5, -3)));
    people.row("tell", "-1", person, only(0, 1), only(0));
    people.row("mark", "-1", person, only(0), only(4));
    people.row("volunteer", "-1 -3", and(person, new Try(5, -3)), only(0));
    people.row("severance", "-1", person);
    people.row("chosen", "-1", only(0), only(0), only(0, 1), person);
    people.row("chain", "-1 -3", and(nobody(0, 39, 0), all(-3, 5, 39)));
    people.row("chainOf", "-1 -3", and(nobody(0, 39, 0), all(-3, 5, 39)), only(0), only(3));
    people.row("leaver", "-1 -3", and(person, new Try(5, -3)));
    people.row("fit", "-1", person, nobody(0, 2, 0, 2));
    people.row("turning", "-1", only(0), only(0), only(1), and(nobody(0, 39, 0), all(-1, 5, 39)), only(0));
    new BoundsTest(States.FULL_TELLINGS).row("right", "-1", nobody(0, 119, 0, 119), only(0));
    new BoundsTest(States.FULL_LEAVERS).row("offered", "-1", nobody(0, 7, 0, 7));
  }

  /** Twelve people of a pool may be chosen among, thirteen may not, whatever n is. */
  private static void tryCrowds() {
    Try[] pool = nobody(0, 0, 0);
    new BoundsTest(States.TWELVE).row("choice", "-1 -2 -4 -6", pool, pool, numbers(0, 12), others(0, 1, 0, 1));
    new BoundsTest(States.TWELVE).row("chosen", "-1 -4 -6", pool, pool, numbers(0, 12), nobody(0, 11, 0, 11));
    new BoundsTest(States.THIRTEEN).rowBehind("choice", "-1 -2 -4 -6", -6, pool, pool, numbers(0, 13), others(0, 1, 0, 1));
    new BoundsTest(States.THIRTEEN).rowBehind("chosen", "-1 -4 -6", -6, pool, pool, numbers(0, 12), nobody(0, 12, 0, 12));
    new BoundsTest(States.THIRTEEN).row("cut", "-1 -4 -6", pool, pool, numbers(0, 40), only(MIN, -1, 0, 12, 13, 39, 40, MAX));
  }
}
