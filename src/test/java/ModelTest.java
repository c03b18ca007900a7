import java.util.ArrayList;
import java.util.List;

/** Long runs of calls drawn by a fixed rule, each answered by the program and by the model alike. */
public final class ModelTest {
  private static final int RUNS = Integer.getInteger("runs", 1000);
  private static final int CALLS = 512;

  private final Draw draw;
  private final PostsEnd program = new PostsEnd();
  private final Model model = new Model();
  private final List<String> told = new ArrayList<>();
  private final int few;
  private final int lines;
  private final int skillMask;
  private int unit;
  private int pool;

  private ModelTest(long seed) {
    draw = new Draw(seed);
    few = 2 + draw.below(3);
    lines = 1 + draw.below(3);
    int[] masks = {3, 7, 15, 1023};
    skillMask = masks[draw.below(masks.length)];
  }

  public static void main(String[] args) {
    long first = Long.getLong("first", 1);
    long asked = 0;
    for (long seed = first; seed < first + RUNS; seed++) {
      ModelTest test = new ModelTest(seed);
      boolean same = test.run();
      if (!same || Boolean.getBoolean("tell")) {
        test.told.forEach(System.out::println);
      }
      if (!same) {
        System.out.println("run " + seed + " differs from the model with the last of these calls");
        System.exit(1);
      }
      asked += test.told.size();
    }
    System.out.println(asked + " answers are those of the model");
  }

  private boolean run() {
    int build = 40 + draw.below(140);
    boolean same = same("unit", draw.below(4), -1);
    while (same && told.size() < CALLS) {
      same = told.size() < build ? buildOn() : askOn();
    }
    return same;
  }

  private boolean same(String name, int... arguments) {
    int got = Calls.ask(program, name, arguments);
    int want = Calls.ask(model, name, arguments);
    told.add(Calls.text(name, arguments) + " answered " + got + (got == want ? "" : ", the model says " + want));
    return got == want;
  }

  private boolean oneIn(int n) {
    return draw.below(n) == 0;
  }

  /** Mostly a number in the bounds, now and then one at or over an edge. */
  private int about(int least, int most) {
    if (oneIn(25)) {
      int[] edges = {least - 1, most + 1, least, most, Integer.MIN_VALUE, Integer.MAX_VALUE};
      return edges[draw.below(edges.length)];
    }
    return least + draw.below(most - least + 1);
  }

  private int some(int what) {
    return about(0, Math.max(model.count(what) - 1, 0));
  }

  private int skills() {
    return oneIn(40) ? about(0, 1023) : draw.below(1024) & skillMask;
  }

  private int sometimesNone(int number) {
    return oneIn(4) ? -1 : number;
  }

  private int freePost() {
    for (int t = 0; t < 6 && model.count(2) > 0; t++) {
      int post = draw.below(model.count(2));
      if (!model.isTaken(post)) {
        return post;
      }
    }
    return some(2);
  }

  private boolean buildOn() {
    int now = model.count(0);
    switch (draw.below(12)) {
      case 0:
        return same("unit", about(0, 3), sometimesNone(some(1)));
      case 1:
      case 2:
      case 3:
      case 4:
        return same("post", some(1), oneIn(12) ? about(0, 7) : draw.below(lines), oneIn(10) ? about(1, 9) : 3 + draw.below(few),
            oneIn(3) ? about(1, 40) : 40 - draw.below(few), skills());
      case 5:
      case 6:
      case 7:
      case 8:
        return same("person", oneIn(8) ? -1 : freePost(), skills(), oneIn(20) ? about(-20000, now) : now - 400 * draw.below(few),
            oneIn(3) ? about(100, 9999) : 100 * (4 + draw.below(5)));
      case 9:
        return same("tell", some(5), oneIn(30) ? about(0, 1) : draw.below(2), about(0, 9));
      case 10:
        return same("ends", about(0, 3), Math.max(0, now + draw.below(100) - 50), about(1, 25));
      default:
        return same("days", 1 + draw.below(5));
    }
  }

  private boolean askOn() {
    List<String> names = Calls.names();
    String name = names.get(draw.below(names.size()));
    switch (name) {
      case "days": return oneIn(4) ? same(name, about(1, oneIn(6) ? 800 : 40)) : same("count", about(0, 16));
      case "unit":
      case "post":
      case "person":
      case "ends": return buildOn();
      case "end": return oneIn(3) ? same(name, some(2)) : same("back", freePost());
      case "leave": return leaveOn();
      case "set": return setSome();
      case "protect": return same(name, some(5), oneIn(3) ? about(-1, 9000) : sometimesNone(model.count(0) + draw.below(30)));
      case "move": return same(name, some(5), sometimesNone(freePost()));
      case "weight": return same(name, about(0, 3), about(0, oneIn(3) ? 20 : 5));
      case "tell": return tellSome();
      case "right": return same(name, some(7), about(0, oneIn(2) ? 9 : 100));
      case "mark": return same(name, some(5), oneIn(3) ? about(0, 3000) : about(0, model.count(0) + 2), about(0, 4));
      case "volunteer": return same(name, some(5), sometimesNone(oneIn(3) ? about(0, 99999) : 100 * draw.below(few)));
      case "severance":
      case "chain":
      case "leaver": return same(name, some(5));
      case "chainOf": return same(name, some(5), about(0, 3), about(0, 3));
      case "clear": return oneIn(6) ? same(name) : same("count", about(0, 16));
      case "fit": return same(name, some(5), some(2));
      case "offers": return same(name, about(0, 2));
      case "offered": return same(name, some(10));
      case "notice": return same(name, about(0, 3), oneIn(3) ? about(0, 3000) : model.count(0) + draw.below(100));
      case "weeks":
      case "weekOf": return weeksOf(name);
      case "back": return same(name, oneIn(3) ? some(2) : freePost());
      case "count": return same(name, about(0, 16));
      default: return askPool(name);
    }
  }

  private boolean askPool(String name) {
    drawPool();
    int n = about(0, oneIn(6) ? 40 : Math.max(1, model.numbersIn(unit, pool).size()));
    switch (name) {
      case "pools": return same(name, unit);
      case "poolOf": return same(name, unit, some(2));
      case "cut": return same(name, unit, pool, n, about(0, Math.max(1, Math.min(n, 12))));
      case "choice": return same(name, unit, pool, n, about(0, 1));
      case "chosen": return same(name, unit, pool, n, member());
      case "turning": return same(name, unit, pool, n, member(), about(0, 3));
      default: return same(name, unit, pool, n, tellingOf(member()), about(0, oneIn(2) ? 9 : 100));
    }
  }

  /** Often the pool with the most people of several drawn, as marks tell little in small ones. */
  private void drawPool() {
    unit = oneIn(3) ? some(1) : 0;
    int there = Math.max(0, model.poolsThere(unit) - 1);
    pool = about(0, there);
    for (int t = draw.below(6); t > 0; t--) {
      int other = draw.below(there + 1);
      pool = model.numbersIn(unit, other).size() > model.numbersIn(unit, pool).size() ? other : pool;
    }
  }

  private int member() {
    List<Integer> members = model.numbersIn(unit, pool);
    return members.isEmpty() || oneIn(10) ? some(5) : members.get(draw.below(members.size()));
  }

  private int tellingOf(int person) {
    int telling = model.latestTelling(person, draw.below(2));
    return telling < 0 || oneIn(6) ? some(7) : telling;
  }

  /** Often with the post behind it or ahead of it, as a return asks for both. */
  private boolean leaveOn() {
    int person = some(5);
    int post = model.heldBy(person);
    switch (draw.below(4)) {
      case 0: return same("leave", person) && (post < 0 || same("end", post));
      case 1: return post < 0 || same("end", post) && same("leave", person);
      case 2: return same("leave", person);
      default: return same("back", freePost());
    }
  }

  private boolean setSome() {
    switch (draw.below(4)) {
      case 0: return same("set", 0, about(0, oneIn(3) ? 10 : 2));
      case 1: return same("set", 1, about(0, oneIn(3) ? 5 : 2));
      case 2: return same("set", 2, about(100, oneIn(3) ? 9999 : 900));
      default: return same("set", about(0, 2), about(0, 10));
    }
  }

  private boolean tellSome() {
    int what = draw.below(2);
    return same("tell", some(5), what, about(0, what == 0 ? 100 : 9));
  }

  /** The model tries all partings, so these are kept few. */
  private boolean weeksOf(String name) {
    int w = about(1, 6);
    int step = about(1, oneIn(2) ? 50 : 12);
    int[] most = {200, 200, 200, 110, 40, 25, 20};
    int m = about(1, w >= 1 && w <= 6 && step > 0 && step <= 50 ? Math.min(200, most[w] * step) : 200);
    int pay = about(1, 9999);
    return name.equals("weeks") ? same(name, about(0, 3), m, w, step, pay)
        : same(name, about(0, 3), m, w, step, pay, w > 0 && w < 7 ? about(0, w - 1) : about(0, 6));
  }
}
