import java.util.ArrayList;
import java.util.List;

/**
 * BEST WEEKS over the whole of their bounds, which the model is too slow for: it tries all
 * partings. Here, from the last WEEK to the first, each part is tried for each number that may be
 * gone ahead of the WEEK, from the greatest part on, so that of several the greatest stays.
 */
public final class WeeksTest {
  private static final int RUNS = Integer.getInteger("runs", 150);
  private static final int ASKED = 12;

  private record End(int place, int day, int n) {
  }

  private final Draw draw;
  private final PostsEnd program = new PostsEnd();
  private final List<End> ends = new ArrayList<>();
  private int now;
  private int wrong;

  private WeeksTest(long seed) {
    draw = new Draw(seed);
  }

  public static void main(String[] args) {
    long first = Long.getLong("first", 1);
    int wrong = 0;
    for (long seed = first; seed < first + RUNS; seed++) {
      WeeksTest test = new WeeksTest(seed);
      test.run();
      wrong += test.wrong;
    }
    System.out.println(RUNS * ASKED + " partings, " + wrong + " not as due");
    System.exit(wrong == 0 ? 0 : 1);
  }

  private void run() {
    int told = draw.below(61);
    for (int i = 0; i < told; i++) {
      End end = new End(draw.below(4), draw.below(260), 1 + draw.below(draw.below(4) == 0 ? 60 : 8));
      ends.add(end);
      program.ends(end.place, end.day, end.n);
    }
    for (int i = 0; i < ASKED; i++) {
      if (draw.below(3) > 0) {
        now = program.days(1 + draw.below(20));
      }
      int m = draw.below(3) == 0 ? 200 - draw.below(5) : 1 + draw.below(200);
      int w = draw.below(3) == 0 ? 6 : 1 + draw.below(6);
      int step = draw.below(3) == 0 ? 1 + draw.below(50) : 1 + draw.below(3);
      ask(draw.below(4), m, w, step, 1 + draw.below(9999));
    }
  }

  private void ask(int place, int m, int w, int step, int pay) {
    int[] due = new int[w];
    int cost = best(place, m, step, due) * pay;
    check(program.weeks(place, m, w, step, pay), cost, "weeks", place, m, w, step, pay);
    for (int week = 0; week < w; week++) {
      check(program.weekOf(place, m, w, step, pay, week), due[week], "weekOf", place, m, w, step, pay, week);
    }
  }

  private void check(int got, int due, String name, int... arguments) {
    if (got != due) {
      wrong++;
      System.out.println("on day " + now + " with " + ends + ": " + Calls.text(name, arguments) + " answered " + got
          + ", due is " + due);
    }
  }

  /** How many weeks of PAY the best parting has; its parts are put into the row. */
  private int best(int place, int m, int step, int[] parts) {
    int last = parts.length - 1;
    int[][] cost = new int[parts.length][m + 1];
    int[][] part = new int[parts.length][m + 1];
    for (int week = last; week >= 0; week--) {
      for (int gone = 0; gone <= m; gone += step) {
        cost[week][gone] = Integer.MAX_VALUE;
        for (int tried = (m - gone) / step * step; tried >= 0; tried -= step) {
          int here = week == last ? m - gone : tried;
          int all = here * each(place, week, gone + here) + (week == last ? 0 : cost[week + 1][gone + here]);
          if (all < cost[week][gone]) {
            cost[week][gone] = all;
            part[week][gone] = here;
          }
        }
      }
    }
    int gone = 0;
    for (int week = 0; week <= last; week++) {
      parts[week] = part[week][gone];
      gone += parts[week];
    }
    return cost[0][0];
  }

  /** Weeks of PAY for each one of a WEEK, if so many of the parting are gone by its end. */
  private int each(int place, int week, int gone) {
    int day = now + 7 * week;
    int sum = gone;
    for (End end : ends) {
      if (end.place == place && end.day >= day - 89 && end.day <= day) {
        sum += end.n;
      }
    }
    int notice = sum >= 100 ? 45 : sum >= 20 ? 30 : 7;
    return (notice + 6) / 7 + week;
  }
}
