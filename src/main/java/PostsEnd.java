import java.util.Arrays;

/**
 * Who must go when posts end: pools of posts that are alike, marks of people, cuts, choices,
 * chains of bumping, offers, notice, turning weights, appeals and returns.
 *
 * The words in capitals in the comments are the terms of the document.
 */
public final class PostsEnd {

    private static final int NOBODY = -1;
    private static final int OTHER = -2;
    private static final int STATE = -3;
    private static final int BELOW = -4;
    private static final int ROOM = -6;
    private static final int KINDS_OF_REFUSAL = 6;

    /** No refusal, and an answer of its own: there is none such. */
    private static final int NONE = -9;

    /** Where an answer may itself be below 0, a refusal is told as this number less it. */
    private static final int FAR = 1000000000;

    private static final int LAST_DAY = 3000;
    private static final int LAST_UNTIL = 9000;
    private static final int FIRST_CAME = -20000;
    private static final int DAYS_OF_YEAR = 365;
    private static final int MOST_UNITS = 12;
    private static final int MOST_POSTS = 40;
    private static final int MOST_PEOPLE = 40;
    private static final int MOST_TELLINGS = 120;
    private static final int MOST_RIGHTINGS = 60;
    private static final int LAST_LINE = 7;
    private static final int LAST_GRADE = 9;
    private static final int MOST_HOURS = 40;
    private static final int KINDS_OF_SKILL = 10;
    private static final int ALL_SKILLS = 1023;
    private static final int LEAST_PAY = 100;
    private static final int MOST_PAY = 9999;
    private static final int MOST_SUM = 99999;

    private static final int WORK = 0;
    private static final int SKILL = 1;
    private static final int RECORD = 2;
    private static final int YEARS = 3;
    private static final int WEIGHTS = 4;
    private static final int MARK = 4;
    private static final int MOST_WEIGHT = 20;
    private static final int MOST_WEIGHT_TRIED = 60;
    private static final int TURNED_BY_LESS = 1000;

    /** WORK is 0 as a telling as well as a weight; FAULTS are told, but RECORD is weighed. */
    private static final int FAULTS = 1;
    private static final int FIRST_WORK = 50;
    private static final int MOST_WORK = 100;
    private static final int MOST_FAULTS = 9;

    private static final int SHARE = 0;
    private static final int NEED = 1;
    private static final int CAP = 2;
    private static final int[] LEAST_SETTING = {0, 0, 100};
    private static final int[] MOST_SETTING = {10, 5, 9999};

    private static final int MOST_CHOOSABLE = 12;
    private static final int MOST_LEAVERS = 8;
    private static final int MOST_VACANT = 8;
    private static final int SETS_OF_VACANT = 256;
    private static final int LEAST_FIT_OFFERED = 30;
    private static final int LEAST_SKILL_TO_BUMP = 50;
    private static final int GRADES_TO_BUMP = 2;
    private static final int DAYS_OF_RETURN = 180;

    private static final int PLACES = 4;
    private static final int MOST_ENDS = 60;
    private static final int MOST_IN_END = 500;
    private static final int DAYS_OF_BAND = 90;
    private static final int BANDS = 3;
    private static final int[] LEAST_OF_BAND = {0, 20, 100};
    private static final int[] NOTICE_OF_BAND = {7, 30, 45};
    private static final int DAYS_OF_WEEK = 7;
    private static final int MOST_MORE = 200;
    private static final int MOST_WEEKS = 6;
    private static final int MOST_STEP = 50;

    private final Firm firm;
    private final Pools pooling;
    private final Ranks ranks;
    private final Chooser chooser;
    private final Bumping bumping;
    private final Offering offering;
    private final Endings endings;
    private final int[] refusals;

    public PostsEnd() {
        firm = new Firm();
        pooling = new Pools(firm);
        ranks = new Ranks(firm);
        chooser = new Chooser(firm);
        bumping = new Bumping(firm);
        offering = new Offering(firm);
        endings = new Endings();
        refusals = new int[KINDS_OF_REFUSAL + 1];
    }

    // ---- days, units, posts, people

    public int days(int n) {
        if (n < 1) {
            return refuse(BELOW);
        }
        if (n > LAST_DAY - firm.day) {
            return refuse(ROOM);
        }
        firm.day += n;
        return firm.day;
    }

    public int unit(int place, int above) {
        if (above != -1 && !firm.isUnit(above)) {
            return refuse(NOBODY);
        }
        if (place < 0) {
            return refuse(BELOW);
        }
        if (place >= PLACES || firm.units >= MOST_UNITS) {
            return refuse(ROOM);
        }
        // No promise asks for a unit's place again, so it is not kept.
        return firm.addUnit(above);
    }

    public int post(int unit, int line, int grade, int hours, int wants) {
        if (!firm.isUnit(unit)) {
            return refuse(NOBODY);
        }
        if (line < 0 || grade < 1 || hours < 1 || wants < 0) {
            return refuse(BELOW);
        }
        if (line > LAST_LINE || grade > LAST_GRADE || hours > MOST_HOURS || wants > ALL_SKILLS
                || firm.posts >= MOST_POSTS) {
            return refuse(ROOM);
        }
        return firm.addPost(new Post(firm.posts, unit, line, grade, hours, wants));
    }

    public int end(int post) {
        Post ending = firm.postAt(post);
        if (ending == null) {
            return refuse(NOBODY);
        }
        if (!ending.isOpen()) {
            return refuse(STATE);
        }
        ending.finish(firm.day);
        return 1;
    }

    public int set(int what, int v) {
        if (what < SHARE || what > CAP) {
            return refuse(OTHER);
        }
        if (v < LEAST_SETTING[what]) {
            return refuse(BELOW);
        }
        if (v > MOST_SETTING[what]) {
            return refuse(ROOM);
        }
        int was = firm.setting[what];
        firm.setting[what] = v;
        return was;
    }

    public int person(int post, int skills, int came, int pay) {
        Post held = firm.postAt(post);
        if (post != -1 && held == null) {
            return refuse(NOBODY);
        }
        if (held != null && !held.isVacant()) {
            return refuse(STATE);
        }
        if (skills < 0 || came < FIRST_CAME || pay < LEAST_PAY) {
            return refuse(BELOW);
        }
        if (skills > ALL_SKILLS || came > firm.day || pay > MOST_PAY || firm.people >= MOST_PEOPLE) {
            return refuse(ROOM);
        }
        Person one = new Person(firm.people, skills, came, pay);
        one.hold(held);
        return firm.addPerson(one);
    }

    public int protect(int person, int until) {
        Person one = firm.personAt(person);
        if (one == null) {
            return refuseFar(NOBODY);
        }
        if (until < -1) {
            return refuseFar(BELOW);
        }
        if (until > LAST_UNTIL) {
            return refuseFar(ROOM);
        }
        int was = one.until;
        one.until = until;
        return was;
    }

    public int move(int person, int post) {
        Person one = firm.personAt(person);
        Post next = firm.postAt(post);
        if (one == null || (post != -1 && next == null)) {
            return refuseFar(NOBODY);
        }
        if (!one.isHere() || (next != null && !next.mayBeHeldBy(one))) {
            return refuseFar(STATE);
        }
        Post was = one.held;
        one.hold(next);
        return was == null ? -1 : was.number;
    }

    public int leave(int person) {
        Person one = firm.personAt(person);
        if (one == null) {
            return refuse(NOBODY);
        }
        if (!one.isHere()) {
            return refuse(STATE);
        }
        one.hold(null);
        one.leftOn = firm.day;
        return 1;
    }

    // ---- weights, tellings, marks

    public int weight(int which, int v) {
        if (which < 0 || which >= WEIGHTS) {
            return refuse(OTHER);
        }
        if (v < 0) {
            return refuse(BELOW);
        }
        if (v > MOST_WEIGHT) {
            return refuse(ROOM);
        }
        int was = firm.weighed[which];
        firm.weighed[which] = v;
        return was;
    }

    public int tell(int person, int what, int v) {
        Person one = firm.personAt(person);
        if (one == null) {
            return refuse(NOBODY);
        }
        if (what != WORK && what != FAULTS) {
            return refuse(OTHER);
        }
        if (v < 0) {
            return refuse(BELOW);
        }
        if (v > mostTold(what) || firm.tellings >= MOST_TELLINGS) {
            return refuse(ROOM);
        }
        return firm.addTelling(one, what, v);
    }

    public int right(int telling, int v) {
        Telling told = firm.tellingAt(telling);
        if (told == null) {
            return refuse(NOBODY);
        }
        if (v < 0) {
            return refuse(BELOW);
        }
        if (v > mostTold(told.what) || firm.rightings >= MOST_RIGHTINGS) {
            return refuse(ROOM);
        }
        firm.rightings++;
        return told.putRight(firm.day, v);
    }

    public int mark(int person, int k, int what) {
        Person one = firm.personAt(person);
        if (one == null) {
            return refuse(NOBODY);
        }
        if (what < WORK || what > MARK) {
            return refuse(OTHER);
        }
        if (k < 0) {
            return refuse(BELOW);
        }
        if (k > LAST_DAY) {
            return refuse(ROOM);
        }
        return what == MARK ? firm.markAsOf(one, k) : firm.partAsOf(one, what, k);
    }

    // ---- pools and cuts

    public int pools(int unit) {
        if (!firm.isUnit(unit)) {
            return refuse(NOBODY);
        }
        pooling.join(unit);
        return pooling.found;
    }

    public int poolOf(int unit, int post) {
        Post one = firm.postAt(post);
        if (one == null || !firm.isUnit(unit)) {
            return refuse(NOBODY);
        }
        pooling.join(unit);
        int pool = pooling.joinedAs(one);
        return pool < 0 ? NONE : pool;
    }

    public int cut(int unit, int pool, int n, int i) {
        if (!pooling.take(unit, pool)) {
            return refuse(NOBODY);
        }
        int refusal = refusalOfNumber(n);
        if (refusal != 0) {
            return refuse(refusal);
        }
        ranks.gather(pooling);
        return ranks.goesAt(n, i);
    }

    // ---- volunteers and choices

    public int volunteer(int person, int sum) {
        Person one = firm.personAt(person);
        if (one == null) {
            return refuseFar(NOBODY);
        }
        if (!one.isHere()) {
            return refuseFar(STATE);
        }
        if (sum < -1) {
            return refuseFar(BELOW);
        }
        if (sum > MOST_SUM) {
            return refuseFar(ROOM);
        }
        int was = one.sum;
        one.sum = sum;
        return was;
    }

    public int severance(int person) {
        Person one = firm.personAt(person);
        return one == null ? refuse(NOBODY) : firm.severanceOf(one);
    }

    public int choice(int unit, int pool, int n, int what) {
        if (!pooling.take(unit, pool)) {
            return refuse(NOBODY);
        }
        if (what != 0 && what != 1) {
            return refuse(OTHER);
        }
        int refusal = refusalOfChoice(n);
        if (refusal != 0) {
            return refuse(refusal);
        }
        chooser.gather(pooling);
        chooser.choose(n);
        if (!chooser.found) {
            return NONE;
        }
        return what == 0 ? chooser.forced : chooser.cost;
    }

    public int chosen(int unit, int pool, int n, int person) {
        Person one = firm.personAt(person);
        if (one == null || !pooling.take(unit, pool)) {
            return refuse(NOBODY);
        }
        int refusal = refusalOfChoice(n);
        if (refusal != 0) {
            return refuse(refusal);
        }
        chooser.gather(pooling);
        chooser.choose(n);
        return chooser.goes(pooling.placeOf(one)) ? 1 : 0;
    }

    // ---- chains of bumping

    public int chain(int person) {
        Person one = firm.personAt(person);
        if (one == null) {
            return refuse(NOBODY);
        }
        if (one.held == null) {
            return refuse(STATE);
        }
        bumping.follow(one);
        return bumping.moves;
    }

    public int chainOf(int person, int i, int what) {
        Person one = firm.personAt(person);
        if (one == null) {
            return refuse(NOBODY);
        }
        if (what < 0 || what > 3) {
            return refuse(OTHER);
        }
        if (one.held == null) {
            return refuse(STATE);
        }
        bumping.follow(one);
        if (what == 3) {
            return bumping.personAfter(bumping.moves);
        }
        if (i < 0 || i >= bumping.moves) {
            return refuse(NOBODY);
        }
        if (what == 1) {
            return bumping.postOf(i);
        }
        return bumping.personAfter(what == 0 ? i : i + 1);
    }

    // ---- offers

    public int leaver(int person) {
        Person one = firm.personAt(person);
        if (one == null) {
            return refuse(NOBODY);
        }
        if (!one.isHere() || offering.isTold(one)) {
            return refuse(STATE);
        }
        if (offering.leavers >= MOST_LEAVERS) {
            return refuse(ROOM);
        }
        return offering.addLeaver(one);
    }

    public int clear() {
        int were = offering.leavers;
        offering.leavers = 0;
        return were;
    }

    public int fit(int person, int post) {
        Person one = firm.personAt(person);
        Post offer = firm.postAt(post);
        if (one == null || offer == null) {
            return refuseFar(NOBODY);
        }
        return firm.fitFor(one, offer);
    }

    public int offers(int what) {
        if (what < 0 || what > 2) {
            return refuse(OTHER);
        }
        offering.settle();
        return offering.total(what);
    }

    public int offered(int i) {
        if (i < 0 || i >= offering.leavers) {
            return refuse(NOBODY);
        }
        offering.settle();
        return offering.postFor(i);
    }

    // ---- notice and weeks

    public int ends(int place, int day, int n) {
        if (!isPlace(place)) {
            return refuse(NOBODY);
        }
        if (day < 0 || n < 1) {
            return refuse(BELOW);
        }
        if (day > LAST_DAY || n > MOST_IN_END || endings.told >= MOST_ENDS) {
            return refuse(ROOM);
        }
        return endings.add(place, day, n);
    }

    public int notice(int place, int day) {
        if (!isPlace(place)) {
            return refuse(NOBODY);
        }
        if (day < 0) {
            return refuse(BELOW);
        }
        if (day > LAST_DAY) {
            return refuse(ROOM);
        }
        return noticeOf(bandOf(endings.within(place, day)));
    }

    public int weeks(int place, int m, int w, int step, int pay) {
        if (!isPlace(place)) {
            return refuse(NOBODY);
        }
        int refusal = refusalOfParting(m, w, step, pay);
        if (refusal != 0) {
            return refuse(refusal);
        }
        endings.part(place, firm.day, m, w, step);
        return endings.weeksPaid() * pay;
    }

    public int weekOf(int place, int m, int w, int step, int pay, int week) {
        if (!isPlace(place) || week < 0 || week >= w) {
            return refuse(NOBODY);
        }
        int refusal = refusalOfParting(m, w, step, pay);
        if (refusal != 0) {
            return refuse(refusal);
        }
        endings.part(place, firm.day, m, w, step);
        return endings.partIn(week);
    }

    // ---- turning, appeals, returns

    public int turning(int unit, int pool, int n, int person, int which) {
        Person one = firm.personAt(person);
        if (one == null || !pooling.take(unit, pool)) {
            return refuse(NOBODY);
        }
        ranks.gather(pooling);
        int at = ranks.placeOf(one);
        if (at < 0) {
            return refuse(NOBODY);
        }
        if (which < 0 || which >= WEIGHTS) {
            return refuse(OTHER);
        }
        int refusal = refusalOfNumber(n);
        if (refusal != 0) {
            return refuse(refusal);
        }
        return ranks.turnedBy(at, n, which);
    }

    public int moved(int unit, int pool, int n, int telling, int v) {
        Telling told = firm.tellingAt(telling);
        if (told == null || !pooling.take(unit, pool)) {
            return refuse(NOBODY);
        }
        if (n < 0 || v < 0) {
            return refuse(BELOW);
        }
        if (n > MOST_PEOPLE || v > mostTold(told.what)) {
            return refuse(ROOM);
        }
        ranks.gather(pooling);
        return ranks.movedBy(n, told, v);
    }

    public int back(int post) {
        Post again = firm.postAt(post);
        if (again == null) {
            return refuse(NOBODY);
        }
        if (!again.isVacant()) {
            return refuse(STATE);
        }
        Person first = firm.firstToReturn(again);
        return first == null ? NONE : first.number;
    }

    public int count(int what) {
        switch (what) {
            case 0: return firm.day;
            case 1: return firm.units;
            case 2: return firm.posts;
            case 3: return firm.openPosts();
            case 4: return firm.vacantPosts();
            case 5: return firm.people;
            case 6: return firm.peopleHere();
            case 7: return firm.tellings;
            case 8: return firm.rightings;
            case 9: return firm.volunteersHere();
            case 10: return offering.leavers;
            default: return refusalsOf(what - 10);
        }
    }

    // ---- refusals

    private int refuse(int refusal) {
        int kind = -refusal;
        if (kind >= 1 && kind <= KINDS_OF_REFUSAL) {
            refusals[kind]++;
        }
        return refusal;
    }

    private int refuseFar(int refusal) {
        return FAR - refuse(refusal);
    }

    private int refusalsOf(int kind) {
        return kind >= 1 && kind <= KINDS_OF_REFUSAL ? refusals[kind] : NONE;
    }

    private static int refusalOfNumber(int n) {
        if (n < 0) {
            return BELOW;
        }
        return n > MOST_PEOPLE ? ROOM : 0;
    }

    private int refusalOfChoice(int n) {
        if (n < 0) {
            return BELOW;
        }
        return pooling.members > MOST_CHOOSABLE || n > pooling.members ? ROOM : 0;
    }

    private static int refusalOfParting(int m, int w, int step, int pay) {
        if (m < 1 || w < 1 || step < 1 || pay < 1) {
            return BELOW;
        }
        return m > MOST_MORE || w > MOST_WEEKS || step > MOST_STEP || pay > MOST_PAY ? ROOM : 0;
    }

    // ---- what follows from numbers alone

    private static boolean isPlace(int place) {
        return place >= 0 && place < PLACES;
    }

    private static int mostTold(int what) {
        return what == WORK ? MOST_WORK : MOST_FAULTS;
    }

    private static int bandOf(int ending) {
        int band = 0;
        for (int b = 1; b < BANDS; b++) {
            if (ending >= LEAST_OF_BAND[b]) {
                band = b;
            }
        }
        return band;
    }

    private static int noticeOf(int band) {
        return band >= 0 && band < BANDS ? NOTICE_OF_BAND[band] : 0;
    }

    private static int skillFor(Person one, Post post) {
        int wanted = Integer.bitCount(post.wants);
        if (wanted == 0) {
            return 100;
        }
        return 100 * Integer.bitCount(one.skills & post.wants) / wanted;
    }

    /** A post: what it asks for, whether it has ended, and who holds it. */
    private static final class Post {
        final int number;
        final int unit;
        final int line;
        final int grade;
        final int hours;
        final int wants;
        int endedOn = -1;
        Person holder;

        Post(int number, int unit, int line, int grade, int hours, int wants) {
            this.number = number;
            this.unit = unit;
            this.line = line;
            this.grade = grade;
            this.hours = hours;
            this.wants = wants;
        }

        boolean isOpen() {
            return endedOn < 0;
        }

        boolean isVacant() {
            return isOpen() && holder == null;
        }

        boolean mayBeHeldBy(Person one) {
            return isOpen() && (holder == null || holder == one);
        }

        void finish(int day) {
            Person last = holder;
            if (last != null) {
                last.hold(null);
            }
            endedOn = day;
        }
    }

    /** A person: what does not change, what is told of it, and the post held now and last. */
    private static final class Person {
        final int number;
        final int skills;
        final int came;
        final int pay;
        Post held;
        /** The post held last, which a return still asks for when none is held any more. */
        Post heldLast;
        int leftOn = -1;
        int until = -1;
        int sum = -1;
        Telling lastWork;
        Telling lastFaults;

        Person(int number, int skills, int came, int pay) {
            this.number = number;
            this.skills = skills;
            this.came = came;
            this.pay = pay;
        }

        boolean isHere() {
            return leftOn < 0;
        }

        boolean isVolunteer() {
            return sum >= 0;
        }

        void hold(Post next) {
            Post was = held;
            if (was != null) {
                was.holder = null;
            }
            held = next;
            if (next != null) {
                next.holder = this;
                heldLast = next;
            }
        }

        Telling lastTold(int what) {
            return what == WORK ? lastWork : lastFaults;
        }

        void add(Telling telling) {
            if (telling.what == WORK) {
                lastWork = telling;
            } else {
                lastFaults = telling;
            }
        }

        /** WORK or FAULTS as of a day; the chain runs from the latest told to the first. */
        int toldAsOf(int what, int k) {
            for (Telling telling = lastTold(what); telling != null; telling = telling.before) {
                if (telling.day <= k) {
                    return telling.asOf(k);
                }
            }
            return what == WORK ? FIRST_WORK : 0;
        }
    }

    /** WORK or FAULTS of a person as told on a day, before it the ones told earlier. */
    private static final class Telling {
        final Person who;
        final int what;
        final int day;
        final int value;
        final Telling before;
        Righting lastRight;
        int times;

        Telling(Person who, int what, int day, int value, Telling before) {
            this.who = who;
            this.what = what;
            this.day = day;
            this.value = value;
            this.before = before;
        }

        int putRight(int now, int v) {
            lastRight = new Righting(now, v, lastRight);
            times++;
            return times;
        }

        int asOf(int k) {
            for (Righting righting = lastRight; righting != null; righting = righting.before) {
                if (righting.day <= k) {
                    return righting.value;
                }
            }
            return value;
        }
    }

    /** What a telling is put right to from a day on, before it what it was put right to earlier. */
    private static final class Righting {
        final int day;
        final int value;
        final Righting before;

        Righting(int day, int value, Righting before) {
            this.day = day;
            this.value = value;
            this.before = before;
        }
    }

    /** All that is told and kept, but for leavers and ends, and what follows from it for one. */
    private static final class Firm {
        int day;
        int units;
        int posts;
        int people;
        int tellings;
        int rightings;
        /** Of each unit, as bits: itself and all units above it. */
        private final int[] upward = new int[MOST_UNITS];
        private final Post[] postRow = new Post[MOST_POSTS];
        private final Person[] personRow = new Person[MOST_PEOPLE];
        private final Telling[] tellingRow = new Telling[MOST_TELLINGS];
        final int[] weighed = {4, 3, 2, 1};
        final int[] setting = {1, 0, 600};

        boolean isUnit(int number) {
            return number >= 0 && number < units;
        }

        Post postAt(int number) {
            return number >= 0 && number < posts ? postRow[number] : null;
        }

        Person personAt(int number) {
            return number >= 0 && number < people ? personRow[number] : null;
        }

        Telling tellingAt(int number) {
            return number >= 0 && number < tellings ? tellingRow[number] : null;
        }

        int addUnit(int above) {
            int number = units;
            if (number < MOST_UNITS) {
                upward[number] = (1 << number) | (isUnit(above) ? upward[above] : 0);
                units++;
            }
            return number;
        }

        int addPost(Post post) {
            int number = posts;
            if (number < MOST_POSTS) {
                postRow[number] = post;
                posts++;
            }
            return number;
        }

        int addPerson(Person one) {
            int number = people;
            if (number < MOST_PEOPLE) {
                personRow[number] = one;
                people++;
            }
            return number;
        }

        int addTelling(Person who, int what, int v) {
            int number = tellings;
            if (number < MOST_TELLINGS) {
                Telling telling = new Telling(who, what, day, v, who.lastTold(what));
                tellingRow[number] = telling;
                who.add(telling);
                tellings++;
            }
            return number;
        }

        boolean isOpenBelow(Post post, int unit) {
            return post.isOpen() && isUnit(post.unit) && isUnit(unit)
                    && (upward[post.unit] >> unit & 1) == 1;
        }

        boolean isAlike(Post one, Post other) {
            if (one.line != other.line || Math.abs(one.grade - other.grade) > 1) {
                return false;
            }
            if (one.wants == 0 && other.wants == 0) {
                return true;
            }
            return Integer.bitCount(one.wants & other.wants) >= setting[SHARE];
        }

        boolean isProtected(Person one) {
            return day <= one.until;
        }

        int wholeYears(Person one) {
            return (day - one.came) / DAYS_OF_YEAR;
        }

        int severanceOf(Person one) {
            return Math.min(wholeYears(one), 30) * Math.min(one.pay, setting[CAP]);
        }

        int partAsOf(Person one, int which, int k) {
            Post held = one.held;
            switch (which) {
                case WORK: return one.toldAsOf(WORK, k);
                case SKILL: return held == null ? 0 : skillFor(one, held);
                case RECORD: return recordOf(one.toldAsOf(FAULTS, k));
                case YEARS: return Math.min(5 * wholeYears(one), 100);
                default: return 0;
            }
        }

        int recordOf(int faults) {
            return Math.max(100 - 20 * faults, 0);
        }

        int markAsOf(Person one, int k) {
            int mark = 0;
            for (int which = 0; which < WEIGHTS; which++) {
                mark += weighed[which] * partAsOf(one, which, k);
            }
            return mark;
        }

        int fitFor(Person one, Post post) {
            Post held = one.held;
            int fit = skillFor(one, post);
            if (held == null) {
                return fit - 10 * Math.abs(post.grade - 1);
            }
            return fit - 10 * Math.abs(post.grade - held.grade) - 2 * Math.abs(post.hours - held.hours);
        }

        int openPosts() {
            int open = 0;
            for (int i = 0; i < posts; i++) {
                Post post = postAt(i);
                if (post != null && post.isOpen()) {
                    open++;
                }
            }
            return open;
        }

        int vacantPosts() {
            int vacant = 0;
            for (int i = 0; i < posts; i++) {
                Post post = postAt(i);
                if (post != null && post.isVacant()) {
                    vacant++;
                }
            }
            return vacant;
        }

        int peopleHere() {
            int here = 0;
            for (int i = 0; i < people; i++) {
                Person one = personAt(i);
                if (one != null && one.isHere()) {
                    here++;
                }
            }
            return here;
        }

        int volunteersHere() {
            int volunteers = 0;
            for (int i = 0; i < people; i++) {
                Person one = personAt(i);
                if (one != null && one.isHere() && one.isVolunteer()) {
                    volunteers++;
                }
            }
            return volunteers;
        }

        /** Goes by numbers, so of those who left on one day the least number stays first. */
        Person firstToReturn(Post again) {
            Person first = null;
            for (int i = 0; i < people; i++) {
                Person one = personAt(i);
                if (one != null && mayReturn(one, again) && (first == null || one.leftOn < first.leftOn)) {
                    first = one;
                }
            }
            return first;
        }

        boolean mayReturn(Person one, Post again) {
            Post lost = one.heldLast;
            return lost != null && !one.isHere() && !lost.isOpen()
                    && day - lost.endedOn <= DAYS_OF_RETURN
                    && one.leftOn >= lost.endedOn
                    && isAlike(lost, again);
        }
    }

    /** The pools of one unit at a time, and the people of one of them by their numbers. */
    private static final class Pools {
        private final Firm firm;
        /** The pool of each post; -1 for posts that belong to none. */
        private final int[] poolRow = new int[MOST_POSTS];
        private final Post[] reached = new Post[MOST_POSTS];
        private final Person[] memberRow = new Person[MOST_PEOPLE];
        private int taken;
        int found;
        int members;

        Pools(Firm firm) {
            this.firm = firm;
        }

        void join(int unit) {
            Arrays.fill(poolRow, -1);
            found = 0;
            for (int i = 0; i < firm.posts; i++) {
                Post post = firm.postAt(i);
                if (post != null && isFree(post, unit)) {
                    spread(post, unit);
                    found++;
                }
            }
        }

        private boolean isFree(Post post, int unit) {
            return joinedAs(post) < 0 && firm.isOpenBelow(post, unit);
        }

        int joinedAs(Post post) {
            int number = post.number;
            return number >= 0 && number < MOST_POSTS ? poolRow[number] : -1;
        }

        /** Each post is reached once at most, as it is free no more from then on. */
        private void spread(Post first, int unit) {
            int size = reach(first, 0);
            for (int next = 0; next < size && next < MOST_POSTS; next++) {
                Post from = reached[next];
                for (int i = 0; i < firm.posts; i++) {
                    Post post = firm.postAt(i);
                    if (from != null && post != null && isFree(post, unit) && firm.isAlike(from, post)) {
                        size = reach(post, size);
                    }
                }
            }
        }

        private int reach(Post post, int size) {
            int number = post.number;
            if (number < 0 || number >= MOST_POSTS || size < 0 || size >= MOST_POSTS) {
                return size;
            }
            poolRow[number] = found;
            reached[size] = post;
            return size + 1;
        }

        /** Whether there is such a pool; its people are gathered then. */
        boolean take(int unit, int pool) {
            if (!firm.isUnit(unit)) {
                return false;
            }
            join(unit);
            if (pool < 0 || pool >= found) {
                return false;
            }
            taken = pool;
            gatherMembers();
            return true;
        }

        private void gatherMembers() {
            members = 0;
            for (int i = 0; i < firm.people; i++) {
                Person one = firm.personAt(i);
                if (one != null && members < MOST_PEOPLE && holdsHere(one)) {
                    memberRow[members] = one;
                    members++;
                }
            }
        }

        /** Who has left holds no post, so who holds one is here. */
        private boolean holdsHere(Person one) {
            Post post = one.held;
            return post != null && joinedAs(post) == taken;
        }

        Person memberAt(int place) {
            return place >= 0 && place < members ? memberRow[place] : null;
        }

        int placeOf(Person one) {
            for (int i = 0; i < members; i++) {
                if (memberAt(i) == one) {
                    return i;
                }
            }
            return -1;
        }

        int wanted() {
            int wanted = 0;
            for (int i = 0; i < firm.posts; i++) {
                Post post = firm.postAt(i);
                if (post != null && joinedAs(post) == taken) {
                    wanted |= post.wants;
                }
            }
            return wanted;
        }
    }

    /** The people of a pool who may be cut, each with a mark, and who of them go. */
    private static final class Ranks {
        private final Firm firm;
        private final Person[] row = new Person[MOST_PEOPLE];
        private final int[] marks = new int[MOST_PEOPLE];
        /** The marks as they would be, when something is tried. */
        private final int[] tried = new int[MOST_PEOPLE];
        /** By how much each mark grows with one more of a weight. */
        private final int[] growth = new int[MOST_PEOPLE];
        private int size;

        Ranks(Firm firm) {
            this.firm = firm;
        }

        void gather(Pools pools) {
            size = 0;
            for (int i = 0; i < pools.members; i++) {
                Person one = pools.memberAt(i);
                if (one != null && size < MOST_PEOPLE && !firm.isProtected(one)) {
                    row[size] = one;
                    marks[size] = firm.markAsOf(one, firm.day);
                    size++;
                }
            }
        }

        int placeOf(Person one) {
            for (int i = 0; i < size; i++) {
                if (row[i] == one) {
                    return i;
                }
            }
            return -1;
        }

        /** How many go before one; one is cut if these are fewer than go. */
        private int ahead(int[] by, int at) {
            Person one = row[at];
            int ahead = 0;
            for (int i = 0; i < size; i++) {
                Person other = row[i];
                if (one != null && other != null
                        && (by[i] < by[at] || (by[i] == by[at] && goesFirst(other, one)))) {
                    ahead++;
                }
            }
            return ahead;
        }

        private static boolean goesFirst(Person one, Person other) {
            if (one.came != other.came) {
                return one.came > other.came;
            }
            return one.number > other.number;
        }

        int goesAt(int n, int i) {
            if (i < 0 || i >= n) {
                return NONE;
            }
            for (int at = 0; at < size; at++) {
                Person one = row[at];
                if (one != null && ahead(marks, at) == i) {
                    return one.number;
                }
            }
            return NONE;
        }

        int turnedBy(int at, int n, int which) {
            if (at < 0 || at >= size || which < 0 || which >= WEIGHTS) {
                return NONE;
            }
            gatherGrowth(which);
            int now = firm.weighed[which];
            boolean goes = ahead(marks, at) < n;
            for (int by = 1; by <= MOST_WEIGHT_TRIED; by++) {
                if (now + by <= MOST_WEIGHT_TRIED && goesWith(by, at, n) != goes) {
                    return by;
                }
                if (now - by >= 0 && goesWith(-by, at, n) != goes) {
                    return TURNED_BY_LESS + by;
                }
            }
            return NONE;
        }

        private void gatherGrowth(int which) {
            for (int i = 0; i < size; i++) {
                Person one = row[i];
                growth[i] = one == null ? 0 : firm.partAsOf(one, which, firm.day);
            }
        }

        private boolean goesWith(int more, int at, int n) {
            for (int i = 0; i < size; i++) {
                tried[i] = marks[i] + more * growth[i];
            }
            return ahead(tried, at) < n;
        }

        int movedBy(int n, Telling told, int v) {
            for (int i = 0; i < size; i++) {
                tried[i] = marks[i];
            }
            int at = placeOf(told.who);
            if (at >= 0) {
                tried[at] += gainOf(told, v);
            }
            return Long.bitCount(goers(marks, n) ^ goers(tried, n));
        }

        /** Only the latest telling of its kind counts as of now. */
        private int gainOf(Telling told, int v) {
            if (told.who.lastTold(told.what) != told) {
                return 0;
            }
            int is = told.asOf(firm.day);
            if (told.what == WORK) {
                return firm.weighed[WORK] * (v - is);
            }
            return firm.weighed[RECORD] * (firm.recordOf(v) - firm.recordOf(is));
        }

        private long goers(int[] by, int n) {
            long goers = 0;
            for (int at = 0; at < size; at++) {
                if (ahead(by, at) < n) {
                    goers |= 1L << at;
                }
            }
            return goers;
        }
    }

    /** Which n of a pool's people go by choice; sets of people are bits by their places in it. */
    private static final class Chooser {
        private final Firm firm;
        private final int[] costs = new int[MOST_CHOOSABLE];
        private final int[] marks = new int[MOST_CHOOSABLE];
        private final int[] having = new int[KINDS_OF_SKILL];
        private final int[] least = new int[KINDS_OF_SKILL];
        private int size;
        private int barred;
        private int willing;
        private int set;
        private int mark;
        boolean found;
        int forced;
        int cost;

        Chooser(Firm firm) {
            this.firm = firm;
        }

        void gather(Pools pools) {
            size = Math.min(pools.members, MOST_CHOOSABLE);
            barred = 0;
            willing = 0;
            Arrays.fill(having, 0);
            for (int i = 0; i < size; i++) {
                Person one = pools.memberAt(i);
                if (one != null) {
                    gatherOne(i, one);
                }
            }
            gatherLeast(pools.wanted());
        }

        /** Sets are tried from the least bits on, so a later one must be better in earnest. */
        void choose(int n) {
            found = false;
            for (int tried = 0; tried < 1 << size; tried++) {
                if (Integer.bitCount(tried) == n && (tried & barred) == 0 && keepsSkills(tried)) {
                    weigh(tried);
                }
            }
        }

        boolean goes(int place) {
            return found && place >= 0 && place < size && (set >> place & 1) == 1;
        }

        private void gatherOne(int place, Person one) {
            if (place < 0 || place >= MOST_CHOOSABLE) {
                return;
            }
            int bit = 1 << place;
            costs[place] = firm.severanceOf(one) + Math.max(one.sum, 0);
            marks[place] = firm.markAsOf(one, firm.day);
            if (one.isVolunteer()) {
                willing |= bit;
            } else if (firm.isProtected(one)) {
                barred |= bit;
            }
            for (int skill = 0; skill < KINDS_OF_SKILL; skill++) {
                if ((one.skills >> skill & 1) == 1) {
                    having[skill] |= bit;
                }
            }
        }

        private void gatherLeast(int wanted) {
            for (int skill = 0; skill < KINDS_OF_SKILL; skill++) {
                boolean isWanted = (wanted >> skill & 1) == 1;
                least[skill] = isWanted ? Math.min(firm.setting[NEED], Integer.bitCount(having[skill])) : 0;
            }
        }

        private boolean keepsSkills(int tried) {
            for (int skill = 0; skill < KINDS_OF_SKILL; skill++) {
                if (Integer.bitCount(having[skill] & ~tried) < least[skill]) {
                    return false;
                }
            }
            return true;
        }

        private void weigh(int tried) {
            int force = Integer.bitCount(tried & ~willing);
            if (found && force > forced) {
                return;
            }
            int costTogether = together(costs, tried);
            int markTogether = together(marks, tried);
            if (!found || force < forced || costTogether < cost || (costTogether == cost && markTogether < mark)) {
                found = true;
                set = tried;
                forced = force;
                cost = costTogether;
                mark = markTogether;
            }
        }

        private int together(int[] each, int tried) {
            int sum = 0;
            for (int i = 0; i < size && i < each.length; i++) {
                if ((tried >> i & 1) == 1) {
                    sum += each[i];
                }
            }
            return sum;
        }
    }

    /** The chain of moves if one person's post ends. */
    private static final class Bumping {
        private final Firm firm;
        private final int[] marks = new int[MOST_PEOPLE];
        /** Who moves first, then who is bumped by each move. */
        private final Person[] row = new Person[MOST_PEOPLE];
        int moves;

        Bumping(Firm firm) {
            this.firm = firm;
        }

        void follow(Person first) {
            gatherMarks();
            moves = 0;
            row[0] = first;
            Person bumped = bumpedBy(first);
            // Marks fall with each move, so nobody comes twice and the row has room for all.
            while (bumped != null && moves + 1 < MOST_PEOPLE) {
                moves++;
                row[moves] = bumped;
                bumped = bumpedBy(bumped);
            }
        }

        private void gatherMarks() {
            for (int i = 0; i < firm.people && i < MOST_PEOPLE; i++) {
                Person one = firm.personAt(i);
                marks[i] = one == null ? 0 : firm.markAsOf(one, firm.day);
            }
        }

        private int markOf(Person one) {
            int number = one.number;
            return number >= 0 && number < MOST_PEOPLE ? marks[number] : 0;
        }

        private Person bumpedBy(Person one) {
            Person best = null;
            for (int i = 0; i < firm.people; i++) {
                Person other = firm.personAt(i);
                if (other != null && mayBump(one, other) && (best == null || isBetter(other, best))) {
                    best = other;
                }
            }
            return best;
        }

        private boolean mayBump(Person one, Person other) {
            Post own = one.held;
            Post aim = other.held;
            return own != null && aim != null
                    && !firm.isProtected(other)
                    && aim.line == own.line
                    && aim.grade <= own.grade
                    && aim.grade >= own.grade - GRADES_TO_BUMP
                    && markOf(other) < markOf(one)
                    && skillFor(one, aim) >= LEAST_SKILL_TO_BUMP;
        }

        /** Of like grades and marks the first one tried stays, which has the least number. */
        private boolean isBetter(Person one, Person best) {
            int grade = gradeOf(one);
            int bestGrade = gradeOf(best);
            if (grade != bestGrade) {
                return grade > bestGrade;
            }
            return markOf(one) < markOf(best);
        }

        private static int gradeOf(Person one) {
            Post post = one.held;
            return post == null ? 0 : post.grade;
        }

        /** Who is bumped by the last of so many moves; for no move who moves first. */
        int personAfter(int made) {
            Person one = made >= 0 && made <= moves && made < MOST_PEOPLE ? row[made] : null;
            return one == null ? NONE : one.number;
        }

        int postOf(int i) {
            Person bumped = i >= 0 && i < moves && i + 1 < MOST_PEOPLE ? row[i + 1] : null;
            Post post = bumped == null ? null : bumped.held;
            return post == null ? NONE : post.number;
        }
    }

    /** Who of the leavers is offered which vacant post; sets of vacant posts are bits. */
    private static final class Offering {
        /** A protected one outweighs all else, an offer outweighs all fits together (800). */
        private static final int WORTH_OF_PROTECTED = 1000000;
        private static final int WORTH_OF_OFFER = 1000;

        private final Firm firm;
        private final Person[] leaverRow = new Person[MOST_LEAVERS];
        private final Post[] vacantRow = new Post[MOST_VACANT];
        /** What each vacant post is worth to each leaver; 0 if it may not be offered. */
        private final int[] worth = new int[MOST_LEAVERS * MOST_VACANT];
        /** The best from each leaver on, if a set of vacant posts is gone. */
        private final int[] best = new int[(MOST_LEAVERS + 1) * SETS_OF_VACANT];
        private final Post[] offerRow = new Post[MOST_LEAVERS];
        private int vacant;
        int leavers;

        Offering(Firm firm) {
            this.firm = firm;
        }

        boolean isTold(Person one) {
            for (int i = 0; i < leavers; i++) {
                if (leaverAt(i) == one) {
                    return true;
                }
            }
            return false;
        }

        int addLeaver(Person one) {
            if (leavers < MOST_LEAVERS) {
                leaverRow[leavers] = one;
                leavers++;
            }
            return leavers;
        }

        private Person leaverAt(int i) {
            return i >= 0 && i < leavers && i < MOST_LEAVERS ? leaverRow[i] : null;
        }

        private Post vacantAt(int j) {
            return j >= 0 && j < vacant && j < MOST_VACANT ? vacantRow[j] : null;
        }

        void settle() {
            gatherVacant();
            for (int i = 0; i < leavers; i++) {
                gatherWorth(i);
            }
            Arrays.fill(best, 0);
            for (int i = leavers - 1; i >= 0; i--) {
                fillRow(i);
            }
            pickOffers();
        }

        private void gatherVacant() {
            vacant = 0;
            for (int i = 0; i < firm.posts && vacant < MOST_VACANT; i++) {
                Post post = firm.postAt(i);
                if (post != null && post.isVacant()) {
                    vacantRow[vacant] = post;
                    vacant++;
                }
            }
        }

        private void gatherWorth(int i) {
            for (int j = 0; j < MOST_VACANT; j++) {
                int at = i * MOST_VACANT + j;
                if (at >= 0 && at < worth.length) {
                    worth[at] = worthTo(leaverAt(i), vacantAt(j));
                }
            }
        }

        private int worthTo(Person one, Post post) {
            if (one == null || post == null || !one.isHere()) {
                return 0;
            }
            int fit = firm.fitFor(one, post);
            if (fit < LEAST_FIT_OFFERED) {
                return 0;
            }
            return fit + WORTH_OF_OFFER + (firm.isProtected(one) ? WORTH_OF_PROTECTED : 0);
        }

        private int bestFrom(int i, int gone) {
            int at = i * SETS_OF_VACANT + gone;
            return at >= 0 && at < best.length ? best[at] : 0;
        }

        /** The best from leaver i on if it gets vacant post j; -1 if it can't. */
        private int bestWith(int i, int j, int gone) {
            int at = i * MOST_VACANT + j;
            if (at < 0 || at >= worth.length || worth[at] == 0 || (gone >> j & 1) == 1) {
                return -1;
            }
            return worth[at] + bestFrom(i + 1, gone | 1 << j);
        }

        /** Before leaver i no more than i posts can be gone. */
        private void fillRow(int i) {
            for (int gone = 0; gone < 1 << vacant; gone++) {
                if (Integer.bitCount(gone) <= i) {
                    fillBest(i, gone);
                }
            }
        }

        private void fillBest(int i, int gone) {
            int most = bestFrom(i + 1, gone);
            for (int j = 0; j < vacant; j++) {
                most = Math.max(most, bestWith(i, j, gone));
            }
            int at = i * SETS_OF_VACANT + gone;
            if (at >= 0 && at < best.length) {
                best[at] = most;
            }
        }

        /** Each in turn takes the least post by which the best can still be had. */
        private void pickOffers() {
            int gone = 0;
            for (int i = 0; i < leavers && i < MOST_LEAVERS; i++) {
                int j = leastPick(i, gone);
                offerRow[i] = vacantAt(j);
                if (j >= 0) {
                    gone |= 1 << j;
                }
            }
        }

        private int leastPick(int i, int gone) {
            int most = bestFrom(i, gone);
            for (int j = 0; j < vacant; j++) {
                if (bestWith(i, j, gone) == most) {
                    return j;
                }
            }
            return -1;
        }

        int postFor(int i) {
            Post post = i >= 0 && i < leavers && i < MOST_LEAVERS ? offerRow[i] : null;
            return post == null ? NONE : post.number;
        }

        /** 0: protected ones who are offered a post, 1: all who are, 2: their fits together. */
        int total(int what) {
            int most = bestFrom(0, 0);
            switch (what) {
                case 0: return most / WORTH_OF_PROTECTED;
                case 1: return most % WORTH_OF_PROTECTED / WORTH_OF_OFFER;
                default: return most % WORTH_OF_OFFER;
            }
        }
    }

    /**
     * The ends told of all places, and the best weeks for more to end in. Costs are counted in
     * weeks of pay. A row over how many steps are gone before a week is enough, as all earlier
     * weeks lie in the days of the band.
     */
    private static final class Endings {
        private static final int STEPS = MOST_MORE + 1;

        private final int[] placeRow = new int[MOST_ENDS];
        private final int[] dayRow = new int[MOST_ENDS];
        private final int[] numberRow = new int[MOST_ENDS];
        int told;

        private final int[] cost = new int[STEPS];
        /** Of each week but the last: how many steps are gone behind it, if so many were before. */
        private final int[] goneAfter = new int[MOST_WEEKS * STEPS];
        private final int[] toldBy = new int[MOST_WEEKS];
        private final int[] leastOfBand = new int[BANDS];
        /** Where in its band the least stands; -1 while there is none. */
        private final int[] leastAt = new int[BANDS];
        private int lastWeek;
        private int step;
        private int steps;
        private int left;

        int add(int place, int day, int n) {
            if (told < MOST_ENDS) {
                placeRow[told] = place;
                dayRow[told] = day;
                numberRow[told] = n;
                told++;
            }
            return told;
        }

        int within(int place, int day) {
            int sum = 0;
            for (int i = 0; i < told && i < MOST_ENDS; i++) {
                if (placeRow[i] == place && dayRow[i] <= day && dayRow[i] > day - DAYS_OF_BAND) {
                    sum += numberRow[i];
                }
            }
            return sum;
        }

        void part(int place, int day, int m, int w, int by) {
            lastWeek = Math.max(1, Math.min(w, MOST_WEEKS)) - 1;
            step = Math.max(1, by);
            steps = Math.max(0, Math.min(m, MOST_MORE)) / step;
            left = m - steps * step;
            for (int week = 0; week <= lastWeek; week++) {
                toldBy[week] = within(place, day + DAYS_OF_WEEK * week);
            }
            fillLastWeek(m);
            for (int week = lastWeek - 1; week >= 0; week--) {
                fillWeek(week);
            }
        }

        /** The last week takes all that is not gone yet, and what the steps leave over. */
        private void fillLastWeek(int m) {
            int each = weeksEach(lastWeek, bandOf(toldBy[lastWeek] + m));
            for (int gone = 0; gone <= steps; gone++) {
                cost[gone] = ((steps - gone) * step + left) * each;
            }
        }

        /** Weeks of pay for one who ends in a week: notice, a begun week whole, and the stay. */
        private static int weeksEach(int week, int band) {
            return (noticeOf(band) + DAYS_OF_WEEK - 1) / DAYS_OF_WEEK + week;
        }

        /**
         * The band depends only on how many are gone behind the week, so the least of each band
         * is kept while the number gone before the week falls. As it falls, the first found of
         * several is the one with the most in this week.
         */
        private void fillWeek(int week) {
            Arrays.fill(leastAt, -1);
            for (int gone = steps; gone >= 0; gone--) {
                keepLeast(week, gone);
                takeLeast(week, gone);
            }
        }

        private void keepLeast(int week, int gone) {
            int band = bandOf(toldBy[week] + gone * step);
            int whole = gone * step * weeksEach(week, band) + cost[gone];
            if (leastAt[band] < 0 || whole < leastOfBand[band]) {
                leastOfBand[band] = whole;
                leastAt[band] = gone;
            }
        }

        /** Higher bands first: they stand for more in this week, which goes first of several. */
        private void takeLeast(int week, int gone) {
            int best = -1;
            int after = gone;
            for (int band = BANDS - 1; band >= 0; band--) {
                if (leastAt[band] >= 0) {
                    int whole = leastOfBand[band] - gone * step * weeksEach(week, band);
                    if (best < 0 || whole < best) {
                        best = whole;
                        after = leastAt[band];
                    }
                }
            }
            cost[gone] = best;
            goneAfter[week * STEPS + gone] = after;
        }

        int weeksPaid() {
            return cost[0];
        }

        int partIn(int week) {
            int before = 0;
            for (int earlier = 0; earlier < week && earlier < lastWeek; earlier++) {
                before = behind(earlier, before);
            }
            if (week == lastWeek) {
                return (steps - before) * step + left;
            }
            return (behind(week, before) - before) * step;
        }

        private int behind(int week, int before) {
            int at = week * STEPS + before;
            return at >= 0 && at < goneAfter.length ? goneAfter[at] : before;
        }
    }
}
