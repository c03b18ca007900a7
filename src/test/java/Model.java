import java.util.ArrayList;
import java.util.Arrays;
import java.util.Collections;
import java.util.Comparator;
import java.util.HashSet;
import java.util.List;
import java.util.Set;

/**
 * A second reading of the document, written for plainness alone: it tries all sets, all ways
 * and all partings, and works everything out anew from what was told. ModelTest compares it
 * with the program on long runs of calls.
 */
final class Model {
  private static final int NONE = -9;

  private static final class Post {
    int number, unit, line, grade, hours, wants;
    int ended = -1;
  }

  private static final class Person {
    int number, skills, came, pay;
    int post = -1, lastPost = -1, left = -1, until = -1, sum = -1;
  }

  private record Telling(int number, int person, int what, int day, int value) {
  }

  private record Right(int telling, int day, int value) {
  }

  private record End(int place, int day, int n) {
  }

  private int now;
  private final List<Integer> above = new ArrayList<>();
  private final List<Post> posts = new ArrayList<>();
  private final List<Person> people = new ArrayList<>();
  private final List<Telling> tellings = new ArrayList<>();
  private final List<Right> rights = new ArrayList<>();
  private final List<End> ends = new ArrayList<>();
  private final List<Person> leavers = new ArrayList<>();
  private final int[] weights = {4, 3, 2, 1};
  private final int[] sets = {1, 0, 600};
  private final int[] refused = new int[7];

  private int no(int code) {
    refused[-code]++;
    return code;
  }

  private int far(int code) {
    return 1000000000 - no(code);
  }

  private static boolean in(int i, List<?> list) {
    return i >= 0 && i < list.size();
  }

  public int days(int n) {
    if (n < 1) return no(-4);
    if ((long) now + n > 3000) return no(-6);
    now += n;
    return now;
  }

  public int unit(int place, int up) {
    if (up != -1 && !in(up, above)) return no(-1);
    if (place < 0) return no(-4);
    if (place > 3 || above.size() == 12) return no(-6);
    above.add(up);
    return above.size() - 1;
  }

  public int post(int unit, int line, int grade, int hours, int wants) {
    if (!in(unit, above)) return no(-1);
    if (line < 0 || grade < 1 || hours < 1 || wants < 0) return no(-4);
    if (line > 7 || grade > 9 || hours > 40 || wants > 1023 || posts.size() == 40) return no(-6);
    Post p = new Post();
    p.number = posts.size();
    p.unit = unit;
    p.line = line;
    p.grade = grade;
    p.hours = hours;
    p.wants = wants;
    posts.add(p);
    return p.number;
  }

  private Person holder(int post) {
    for (Person p : people) if (p.left < 0 && p.post == post) return p;
    return null;
  }

  public int end(int post) {
    if (!in(post, posts)) return no(-1);
    if (posts.get(post).ended >= 0) return no(-3);
    Person h = holder(post);
    if (h != null) h.post = -1;
    posts.get(post).ended = now;
    return 1;
  }

  public int set(int what, int v) {
    int[] least = {0, 0, 100};
    int[] most = {10, 5, 9999};
    if (what < 0 || what > 2) return no(-2);
    if (v < least[what]) return no(-4);
    if (v > most[what]) return no(-6);
    int was = sets[what];
    sets[what] = v;
    return was;
  }

  public int person(int post, int skills, int came, int pay) {
    if (post != -1 && !in(post, posts)) return no(-1);
    if (post != -1 && (posts.get(post).ended >= 0 || holder(post) != null)) return no(-3);
    if (skills < 0 || came < -20000 || pay < 100) return no(-4);
    if (skills > 1023 || came > now || pay > 9999 || people.size() == 40) return no(-6);
    Person p = new Person();
    p.number = people.size();
    p.skills = skills;
    p.came = came;
    p.pay = pay;
    p.post = post;
    p.lastPost = post;
    people.add(p);
    return p.number;
  }

  public int protect(int person, int until) {
    if (!in(person, people)) return far(-1);
    if (until < -1) return far(-4);
    if (until > 9000) return far(-6);
    int was = people.get(person).until;
    people.get(person).until = until;
    return was;
  }

  public int move(int person, int post) {
    if (!in(person, people) || (post != -1 && !in(post, posts))) return far(-1);
    Person p = people.get(person);
    if (p.left >= 0) return far(-3);
    if (post != -1 && posts.get(post).ended >= 0) return far(-3);
    if (post != -1 && holder(post) != null && holder(post) != p) return far(-3);
    int was = p.post;
    p.post = post;
    if (post != -1) p.lastPost = post;
    return was;
  }

  public int leave(int person) {
    if (!in(person, people)) return no(-1);
    Person p = people.get(person);
    if (p.left >= 0) return no(-3);
    p.left = now;
    p.post = -1;
    return 1;
  }

  public int weight(int which, int v) {
    if (which < 0 || which > 3) return no(-2);
    if (v < 0) return no(-4);
    if (v > 20) return no(-6);
    int was = weights[which];
    weights[which] = v;
    return was;
  }

  public int tell(int person, int what, int v) {
    if (!in(person, people)) return no(-1);
    if (what != 0 && what != 1) return no(-2);
    if (v < 0) return no(-4);
    if (v > (what == 0 ? 100 : 9) || tellings.size() == 120) return no(-6);
    tellings.add(new Telling(tellings.size(), person, what, now, v));
    return tellings.size() - 1;
  }

  public int right(int telling, int v) {
    if (!in(telling, tellings)) return no(-1);
    if (v < 0) return no(-4);
    if (v > (tellings.get(telling).what == 0 ? 100 : 9) || rights.size() == 60) return no(-6);
    rights.add(new Right(telling, now, v));
    int times = 0;
    for (Right r : rights) if (r.telling == telling) times++;
    return times;
  }

  private int told(int person, int what, int k) {
    int told = what == 0 ? 50 : 0;
    for (Telling t : tellings) {
      if (t.person == person && t.what == what && t.day <= k) {
        told = t.value;
        for (Right r : rights) if (r.telling == t.number && r.day <= k) told = r.value;
      }
    }
    return told;
  }

  private static int skill(int skills, int wants) {
    int both = 0;
    int all = 0;
    for (int b = 0; b < 10; b++) {
      if ((wants & 1 << b) != 0) {
        all++;
        if ((skills & 1 << b) != 0) both++;
      }
    }
    return all == 0 ? 100 : 100 * both / all;
  }

  private int years(Person p) {
    int years = 0;
    while (p.came + 365 * (years + 1) <= now) years++;
    return years;
  }

  private int[] parts(Person p, int k) {
    int record = 100 - 20 * told(p.number, 1, k);
    return new int[] {
      told(p.number, 0, k),
      p.post < 0 ? 0 : skill(p.skills, posts.get(p.post).wants),
      record < 0 ? 0 : record,
      5 * years(p) > 100 ? 100 : 5 * years(p)};
  }

  private int mark(Person p) {
    return mark(p.number, now, 4);
  }

  public int mark(int person, int k, int what) {
    if (!in(person, people)) return no(-1);
    if (what < 0 || what > 4) return no(-2);
    if (k < 0) return no(-4);
    if (k > 3000) return no(-6);
    int[] parts = parts(people.get(person), k);
    if (what < 4) return parts[what];
    return weights[0] * parts[0] + weights[1] * parts[1] + weights[2] * parts[2] + weights[3] * parts[3];
  }

  private boolean like(Post a, Post b) {
    if (a.line != b.line) return false;
    if (a.grade - b.grade > 1 || b.grade - a.grade > 1) return false;
    int common = 0;
    for (int s = 0; s < 10; s++) if ((a.wants >> s & 1) + (b.wants >> s & 1) == 2) common++;
    return common >= sets[0] || (a.wants == 0 && b.wants == 0);
  }

  private boolean under(int unit, int top) {
    for (int u = unit; u != -1; u = above.get(u)) if (u == top) return true;
    return false;
  }

  /** Each POOL as a list of POSTS, by joining lists as long as any two hold POSTS that are LIKE. */
  private List<List<Post>> poolsOf(int unit) {
    List<List<Post>> pools = new ArrayList<>();
    for (Post p : posts) {
      if (p.ended < 0 && under(p.unit, unit)) pools.add(new ArrayList<>(List.of(p)));
    }
    boolean joined = true;
    while (joined) {
      joined = false;
      search:
      for (List<Post> a : pools) {
        for (List<Post> b : pools) {
          if (a != b && touch(a, b)) {
            a.addAll(b);
            pools.remove(b);
            joined = true;
            break search;
          }
        }
      }
    }
    pools.sort(Comparator.comparingInt(Model::least));
    return pools;
  }

  private boolean touch(List<Post> a, List<Post> b) {
    for (Post p : a) for (Post q : b) if (like(p, q)) return true;
    return false;
  }

  private static int least(List<Post> pool) {
    return pool.stream().mapToInt(p -> p.number).min().orElse(-1);
  }

  public int pools(int unit) {
    if (!in(unit, above)) return no(-1);
    return poolsOf(unit).size();
  }

  public int poolOf(int unit, int post) {
    if (!in(unit, above) || !in(post, posts)) return no(-1);
    List<List<Post>> pools = poolsOf(unit);
    for (int i = 0; i < pools.size(); i++) if (pools.get(i).contains(posts.get(post))) return i;
    return NONE;
  }

  private boolean noPool(int unit, int pool) {
    return !in(unit, above) || !in(pool, poolsOf(unit));
  }

  private List<Person> peopleOf(int unit, int pool) {
    List<Post> of = poolsOf(unit).get(pool);
    List<Person> list = new ArrayList<>();
    for (Person p : people) if (p.left < 0 && p.post >= 0 && of.contains(posts.get(p.post))) list.add(p);
    return list;
  }

  private boolean isProtected(Person p) {
    return p.until >= now;
  }

  private List<Person> cutOf(int unit, int pool, int n) {
    List<Person> list = peopleOf(unit, pool);
    list.removeIf(this::isProtected);
    list.sort((a, b) -> {
      if (mark(a) != mark(b)) return mark(a) - mark(b);
      if (a.came != b.came) return b.came - a.came;
      return b.number - a.number;
    });
    return new ArrayList<>(list.subList(0, Math.min(n, list.size())));
  }

  public int cut(int unit, int pool, int n, int i) {
    if (noPool(unit, pool)) return no(-1);
    if (n < 0) return no(-4);
    if (n > 40) return no(-6);
    List<Person> cut = cutOf(unit, pool, n);
    return in(i, cut) ? cut.get(i).number : NONE;
  }

  public int volunteer(int person, int sum) {
    if (!in(person, people)) return far(-1);
    Person p = people.get(person);
    if (p.left >= 0) return far(-3);
    if (sum < -1) return far(-4);
    if (sum > 99999) return far(-6);
    int was = p.sum;
    p.sum = sum;
    return was;
  }

  public int severance(int person) {
    if (!in(person, people)) return no(-1);
    return severance(people.get(person));
  }

  private int severance(Person p) {
    int sum = 0;
    for (int y = 0; y < years(p) && y < 30; y++) sum += p.pay < sets[2] ? p.pay : sets[2];
    return sum;
  }

  /** The CHOICE as bits by places in the POOL; -1 if there is none. */
  private int choose(int unit, int pool, int n) {
    List<Person> all = peopleOf(unit, pool);
    int wanted = 0;
    for (Post p : poolsOf(unit).get(pool)) wanted |= p.wants;
    int best = -1;
    int[] bestKey = null;
    for (int bits = 0; bits < 1 << all.size(); bits++) {
      int[] key = keyOf(all, bits, n, wanted);
      if (key != null && (bestKey == null || Arrays.compare(key, bestKey) < 0)) {
        bestKey = key;
        best = bits;
      }
    }
    return best;
  }

  private int[] keyOf(List<Person> all, int bits, int n, int wanted) {
    int[] key = new int[3];
    int[] stay = new int[10];
    int[] have = new int[10];
    int go = 0;
    for (int i = 0; i < all.size(); i++) {
      Person p = all.get(i);
      boolean goes = (bits >> i & 1) == 1;
      for (int s = 0; s < 10; s++) {
        if ((p.skills >> s & 1) == 1) {
          have[s]++;
          if (!goes) stay[s]++;
        }
      }
      if (goes) {
        go++;
        if (p.sum < 0 && isProtected(p)) return null;
        if (p.sum < 0) key[0]++;
        key[1] += severance(p) + (p.sum < 0 ? 0 : p.sum);
        key[2] += mark(p);
      }
    }
    for (int s = 0; s < 10; s++) {
      boolean kept = stay[s] >= sets[1] || stay[s] == have[s];
      if ((wanted >> s & 1) == 1 && !kept) return null;
    }
    return go == n ? key : null;
  }

  public int choice(int unit, int pool, int n, int what) {
    if (noPool(unit, pool)) return no(-1);
    if (what != 0 && what != 1) return no(-2);
    if (n < 0) return no(-4);
    List<Person> all = peopleOf(unit, pool);
    if (all.size() > 12 || n > all.size()) return no(-6);
    int bits = choose(unit, pool, n);
    if (bits < 0) return NONE;
    int forced = 0;
    int cost = 0;
    for (int i = 0; i < all.size(); i++) {
      if ((bits >> i & 1) == 1) {
        Person p = all.get(i);
        if (p.sum < 0) forced++;
        cost += severance(p) + (p.sum < 0 ? 0 : p.sum);
      }
    }
    return what == 0 ? forced : cost;
  }

  public int chosen(int unit, int pool, int n, int person) {
    if (noPool(unit, pool) || !in(person, people)) return no(-1);
    if (n < 0) return no(-4);
    List<Person> all = peopleOf(unit, pool);
    if (all.size() > 12 || n > all.size()) return no(-6);
    int bits = choose(unit, pool, n);
    int place = all.indexOf(people.get(person));
    return bits >= 0 && place >= 0 && (bits >> place & 1) == 1 ? 1 : 0;
  }

  private List<int[]> moves(Person first) {
    List<int[]> moves = new ArrayList<>();
    Set<Integer> taken = new HashSet<>();
    Set<Person> bumped = new HashSet<>();
    Person one = first;
    while (one != null && bumped.add(one)) {
      Person next = nextBumped(one, taken);
      if (next != null) {
        taken.add(next.post);
        moves.add(new int[] {one.number, next.post, next.number});
      }
      one = next;
    }
    return moves;
  }

  private Person nextBumped(Person one, Set<Integer> taken) {
    Post own = posts.get(one.post);
    List<Person> may = new ArrayList<>();
    for (Person p : people) {
      if (p == one || p.left >= 0 || p.post < 0 || isProtected(p) || taken.contains(p.post)) continue;
      Post aim = posts.get(p.post);
      int lower = own.grade - aim.grade;
      if (aim.line == own.line && lower >= 0 && lower <= 2 && mark(p) < mark(one) && skill(one.skills, aim.wants) >= 50) {
        may.add(p);
      }
    }
    may.sort((a, b) -> {
      int ga = posts.get(a.post).grade;
      int gb = posts.get(b.post).grade;
      if (ga != gb) return gb - ga;
      if (mark(a) != mark(b)) return mark(a) - mark(b);
      return a.number - b.number;
    });
    return may.isEmpty() ? null : may.get(0);
  }

  public int chain(int person) {
    if (!in(person, people)) return no(-1);
    Person p = people.get(person);
    if (p.left >= 0 || p.post < 0) return no(-3);
    return moves(p).size();
  }

  public int chainOf(int person, int i, int what) {
    if (!in(person, people)) return no(-1);
    if (what < 0 || what > 3) return no(-2);
    Person p = people.get(person);
    if (p.left >= 0 || p.post < 0) return no(-3);
    List<int[]> moves = moves(p);
    if (what == 3) return moves.isEmpty() ? person : moves.get(moves.size() - 1)[2];
    if (!in(i, moves)) return no(-1);
    return moves.get(i)[what];
  }

  public int leaver(int person) {
    if (!in(person, people)) return no(-1);
    Person p = people.get(person);
    if (p.left >= 0 || leavers.contains(p)) return no(-3);
    if (leavers.size() == 8) return no(-6);
    leavers.add(p);
    return leavers.size();
  }

  public int clear() {
    int were = leavers.size();
    leavers.clear();
    return were;
  }

  private int fit(Person p, Post post) {
    int fit = skill(p.skills, post.wants);
    Post held = p.post < 0 ? null : posts.get(p.post);
    fit -= 10 * Math.abs((held == null ? 1 : held.grade) - post.grade);
    if (held != null) fit -= 2 * Math.abs(held.hours - post.hours);
    return fit;
  }

  public int fit(int person, int post) {
    if (!in(person, people) || !in(post, posts)) return far(-1);
    return fit(people.get(person), posts.get(post));
  }

  private boolean isVacant(Post p) {
    return p.ended < 0 && holder(p.number) == null;
  }

  /** Not of the face: for tests that want a POST which can be held. */
  boolean isTaken(int post) {
    return !isVacant(posts.get(post));
  }

  /** Not of the face: for tests that want a POOL there is; 0 for none. */
  int poolsThere(int unit) {
    return in(unit, above) ? poolsOf(unit).size() : 0;
  }

  /** Not of the face: for tests that want the people of a POOL. */
  List<Integer> numbersIn(int unit, int pool) {
    List<Integer> numbers = new ArrayList<>();
    if (!noPool(unit, pool)) peopleOf(unit, pool).forEach(p -> numbers.add(p.number));
    return numbers;
  }

  /** Not of the face: for tests that want a telling which counts; -1 for none. */
  int latestTelling(int person, int what) {
    int latest = -1;
    for (Telling t : tellings) if (t.person == person && t.what == what) latest = t.number;
    return latest;
  }

  /** Not of the face: for tests that end the POST of one who leaves. */
  int heldBy(int person) {
    return in(person, people) ? people.get(person).post : -1;
  }

  private List<Post> vacant() {
    List<Post> vacant = new ArrayList<>();
    for (Post p : posts) if (isVacant(p) && vacant.size() < 8) vacant.add(p);
    return vacant;
  }

  private int[] bestWay;
  private int[] bestWayKey;

  /** All ways one by one; a way is a POST for each LEAVER, 99 for none. */
  private void ways(int i, int[] way, List<Post> vacant) {
    if (i == leavers.size()) {
      int[] key = new int[3];
      for (int l = 0; l < i; l++) {
        if (way[l] != 99) {
          key[0] -= isProtected(leavers.get(l)) ? 1 : 0;
          key[1]--;
          key[2] -= fit(leavers.get(l), posts.get(way[l]));
        }
      }
      int better = bestWay == null ? -1 : Arrays.compare(key, bestWayKey);
      if (better < 0 || (better == 0 && Arrays.compare(way, bestWay) < 0)) {
        bestWay = way.clone();
        bestWayKey = key;
      }
      return;
    }
    Person p = leavers.get(i);
    way[i] = 99;
    ways(i + 1, way, vacant);
    if (p.left >= 0) return;
    for (Post post : new ArrayList<>(vacant)) {
      if (fit(p, post) >= 30) {
        way[i] = post.number;
        vacant.remove(post);
        ways(i + 1, way, vacant);
        vacant.add(post);
      }
    }
    way[i] = 99;
  }

  private void findWay() {
    bestWay = null;
    ways(0, new int[leavers.size()], vacant());
  }

  public int offers(int what) {
    if (what < 0 || what > 2) return no(-2);
    findWay();
    return -bestWayKey[what];
  }

  public int offered(int i) {
    if (!in(i, leavers)) return no(-1);
    findWay();
    return bestWay[i] == 99 ? NONE : bestWay[i];
  }

  public int ends(int place, int day, int n) {
    if (place < 0 || place > 3) return no(-1);
    if (day < 0 || n < 1) return no(-4);
    if (day > 3000 || n > 500 || ends.size() == 60) return no(-6);
    ends.add(new End(place, day, n));
    return ends.size();
  }

  private int told(int place, int day) {
    int sum = 0;
    for (End e : ends) if (e.place == place && day - 89 <= e.day && e.day <= day) sum += e.n;
    return sum;
  }

  private static int notice(int sum) {
    if (sum >= 100) return 45;
    return sum >= 20 ? 30 : 7;
  }

  public int notice(int place, int day) {
    if (place < 0 || place > 3) return no(-1);
    if (day < 0) return no(-4);
    if (day > 3000) return no(-6);
    return notice(told(place, day));
  }

  private int[] bestParts;
  private int bestCost;

  private void partings(int place, int week, int[] parts, int units, int step, int left) {
    if (week == parts.length - 1) {
      parts[week] = units * step + left;
      int cost = costOf(place, parts);
      if (bestParts == null || cost < bestCost || (cost == bestCost && Arrays.compare(parts, bestParts) > 0)) {
        bestParts = parts.clone();
        bestCost = cost;
      }
      return;
    }
    for (int u = 0; u <= units; u++) {
      parts[week] = u * step;
      partings(place, week + 1, parts, units - u, step, left);
    }
  }

  private int costOf(int place, int[] parts) {
    int cost = 0;
    int gone = 0;
    for (int week = 0; week < parts.length; week++) {
      gone += parts[week];
      int days = notice(told(place, now + 7 * week) + gone);
      int begun = 0;
      while (7 * begun < days) begun++;
      cost += parts[week] * (begun + week);
    }
    return cost;
  }

  private int badParting(int m, int w, int step, int pay) {
    if (m < 1 || w < 1 || step < 1 || pay < 1) return -4;
    if (m > 200 || w > 6 || step > 50 || pay > 9999) return -6;
    return 0;
  }

  private void findParts(int place, int m, int w, int step) {
    bestParts = null;
    partings(place, 0, new int[w], m / step, step, m % step);
  }

  public int weeks(int place, int m, int w, int step, int pay) {
    if (place < 0 || place > 3) return no(-1);
    int bad = badParting(m, w, step, pay);
    if (bad != 0) return no(bad);
    findParts(place, m, w, step);
    return bestCost * pay;
  }

  public int weekOf(int place, int m, int w, int step, int pay, int week) {
    if (place < 0 || place > 3 || week < 0 || week >= w) return no(-1);
    int bad = badParting(m, w, step, pay);
    if (bad != 0) return no(bad);
    findParts(place, m, w, step);
    return bestParts[week];
  }

  public int turning(int unit, int pool, int n, int person, int which) {
    if (noPool(unit, pool) || !in(person, people)) return no(-1);
    Person p = people.get(person);
    if (!peopleOf(unit, pool).contains(p) || isProtected(p)) return no(-1);
    if (which < 0 || which > 3) return no(-2);
    if (n < 0) return no(-4);
    if (n > 40) return no(-6);
    int was = weights[which];
    boolean goes = cutOf(unit, pool, n).contains(p);
    List<int[]> turns = new ArrayList<>();
    for (int v = 0; v <= 60; v++) {
      weights[which] = v;
      if (cutOf(unit, pool, n).contains(p) != goes) {
        turns.add(new int[] {Math.abs(v - was), v > was ? 0 : 1000});
      }
    }
    weights[which] = was;
    if (turns.isEmpty()) return NONE;
    int[] best = Collections.min(turns, Arrays::compare);
    return best[0] + best[1];
  }

  public int moved(int unit, int pool, int n, int telling, int v) {
    if (noPool(unit, pool) || !in(telling, tellings)) return no(-1);
    if (n < 0 || v < 0) return no(-4);
    if (n > 40 || v > (tellings.get(telling).what == 0 ? 100 : 9)) return no(-6);
    Set<Person> is = new HashSet<>(cutOf(unit, pool, n));
    rights.add(new Right(telling, now, v));
    Set<Person> would = new HashSet<>(cutOf(unit, pool, n));
    rights.remove(rights.size() - 1);
    int moved = 0;
    for (Person p : people) if (is.contains(p) != would.contains(p)) moved++;
    return moved;
  }

  public int back(int post) {
    if (!in(post, posts)) return no(-1);
    Post again = posts.get(post);
    if (!isVacant(again)) return no(-3);
    List<Person> may = new ArrayList<>();
    for (Post ended : posts) {
      if (ended.ended < 0 || now - ended.ended > 180 || !like(ended, again)) continue;
      for (Person p : people) if (p.left >= ended.ended && p.lastPost == ended.number) may.add(p);
    }
    may.sort((a, b) -> a.left != b.left ? a.left - b.left : a.number - b.number);
    return may.isEmpty() ? NONE : may.get(0).number;
  }

  public int count(int what) {
    int open = 0;
    int vacant = 0;
    int here = 0;
    int volunteers = 0;
    for (Post p : posts) {
      if (p.ended < 0) open++;
      if (isVacant(p)) vacant++;
    }
    for (Person p : people) {
      if (p.left < 0) here++;
      if (p.left < 0 && p.sum >= 0) volunteers++;
    }
    int[] counts = {now, above.size(), posts.size(), open, vacant, people.size(), here, tellings.size(), rights.size(),
      volunteers, leavers.size(), refused[1], refused[2], refused[3], refused[4], refused[5], refused[6]};
    return what >= 0 && what < counts.length ? counts[what] : NONE;
  }
}
