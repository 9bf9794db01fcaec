import java.util.Arrays;

/** A planner of walls within a house's net; DOC.md says in numbered promises what it does. */
public final class WallPlanner {
    public static final int NONE = -1;

    private static final int SPENT = -2;
    private static final int MOST_HOSTS = 8;
    private static final int MARKS = 4;
    private static final int DOORS = 4;
    private static final int ALL_DOORS = 15;
    private static final int DAYS = 100;
    private static final int MOST_TALKS = 300;
    private static final int MOST_COUNT = 999;
    private static final int MOST_WINDOW = 100;
    private static final int MOST_LEAST = 9999;
    private static final int MOST_PRICE = 99;
    private static final int PAIRS = 64;
    private static final int WAYS = 256;
    private static final int MOST_RULES = 224;
    private static final int MOST_SHUT = 12;
    private static final int MOST_STEPS = 1000000;

    private final Net net;
    private final Law lawNow;
    private final Diary diary;
    private final Plan walls;
    private final Needs fresh;
    private final Seeker seeker;
    private final Spreading spreading;
    private final Shutter shutter;
    private final OddList oddList;

    public WallPlanner() {
        net = new Net();
        lawNow = new Law();
        diary = new Diary();
        walls = new Plan();
        fresh = new Needs();
        seeker = new Seeker();
        spreading = new Spreading();
        shutter = new Shutter();
        oddList = new OddList();
    }

    public int host(int mark) {
        if (!isBetween(mark, 0, MARKS - 1)) {
            return NONE;
        }
        return net.addHost(mark);
    }

    public int talk(int from, int to, int door, int day, int count) {
        if (!net.isWay(from, to, door) || !isDay(day) || !isBetween(count, 1, MOST_COUNT)) {
            return NONE;
        }
        return diary.write(wayOf(from, to, door), day, count);
    }

    public boolean must(int from, int to, int door, boolean on) {
        if (!net.isWay(from, to, door)) {
            return false;
        }
        return turnDoor(net.musts, net.bars, pairOf(from, to), door, on);
    }

    public boolean bar(int from, int to, int door, boolean on) {
        if (!net.isWay(from, to, door)) {
            return false;
        }
        return turnDoor(net.bars, net.musts, pairOf(from, to), door, on);
    }

    public boolean law(int window, int least, boolean strict) {
        if (!isBetween(window, 1, MOST_WINDOW) || !isBetween(least, 1, MOST_LEAST)) {
            return false;
        }
        lawNow.window = window;
        lawNow.least = least;
        lawNow.strict = strict;
        return true;
    }

    public boolean prices(int rule, int stray) {
        if (!isBetween(rule, 0, MOST_PRICE) || !isBetween(stray, 0, MOST_PRICE)) {
            return false;
        }
        lawNow.rulePrice = rule;
        lawNow.strayPrice = stray;
        return true;
    }

    public int weight(int from, int to, int door, int day) {
        if (!net.isWay(from, to, door) || !isDay(day)) {
            return NONE;
        }
        return diary.sumOf(wayOf(from, to, door), day, lawNow.window);
    }

    public int needed(int from, int to, int door, int day) {
        if (!net.isWay(from, to, door) || !isDay(day)) {
            return NONE;
        }
        int sum = diary.sumOf(wayOf(from, to, door), day, lawNow.window);
        return net.isNeed(pairOf(from, to), door, sum, lawNow.least) ? 1 : 0;
    }

    public int plan(int day) {
        if (!isDay(day) || net.hosts == 0) {
            return NONE;
        }
        fresh.take(net, lawNow, diary, day);
        seeker.seekRooms(net, lawNow, fresh);
        walls.settle(seeker.found, fresh, net, lawNow);
        return walls.cost;
    }

    public int room(int host) {
        return net.isHost(host) ? walls.layout.roomOf[host] : NONE;
    }

    public int rule(int k, int what) {
        if (!isBetween(k, 0, walls.rules - 1)) {
            return NONE;
        }
        int rule = walls.ruleAt[k];
        switch (what) {
            case 0:
                return firstOf(rule);
            case 1:
                return secondOf(rule);
            case 2:
                return doorOf(rule);
            case 3:
                return walls.waysBy(rule);
            case 4:
                return walls.weightBy(rule, 0);
            case 5:
                return walls.isMustBy(rule, net.musts) ? 0 : 1;
            default:
                return NONE;
        }
    }

    public int lets(int from, int to, int door) {
        if (!net.isWay(from, to, door) || !walls.layout.areIn(from, to)) {
            return NONE;
        }
        if (!walls.layout.isLet(from, to, door)) {
            return 0;
        }
        return walls.layout.roomOf[from] == walls.layout.roomOf[to] ? 1 : 2;
    }

    public int reach(int host) {
        if (!net.isHost(host) || walls.layout.roomOf[host] == NONE) {
            return NONE;
        }
        spreading.follow(walls);
        return spreading.othersFrom(walls.layout.roomOf[host]);
    }

    public int spread(int what) {
        if (!walls.made || !isBetween(what, 0, 1)) {
            return NONE;
        }
        spreading.follow(walls);
        int widest = spreading.widest();
        return what == 0 ? widest : spreading.firstWith(widest, walls.layout);
    }

    public int shut(int most) {
        if (!walls.made || !isBetween(most, 0, MOST_HOSTS)) {
            return NONE;
        }
        return shutter.seekSet(walls, net.musts, most);
    }

    public int shutting(int k) {
        return isBetween(k, 0, shutter.chosenCount - 1) ? shutter.chosen[k] : NONE;
    }

    public int odd(int day) {
        if (!walls.made || !isDay(day)) {
            return NONE;
        }
        oddList.gather(diary, walls.layout, day);
        return oddList.size;
    }

    public int oddTalk(int k, int what) {
        if (!isBetween(k, 0, oddList.size - 1)) {
            return NONE;
        }
        int told = oddList.talkAt[k];
        switch (what) {
            case 0:
                return firstOf(diary.wayAt[told]);
            case 1:
                return secondOf(diary.wayAt[told]);
            case 2:
                return doorOf(diary.wayAt[told]);
            case 3:
                return diary.countAt[told];
            case 4:
                return oddList.nearAt[k];
            default:
                return NONE;
        }
    }

    public int place(int host, int day) {
        if (!net.isHost(host) || !isDay(day) || !walls.made || walls.layout.roomOf[host] != NONE) {
            return NONE;
        }
        fresh.take(net, lawNow, diary, day);
        int room = seeker.seekRoomFor(host, walls, net, lawNow, fresh);
        if (room != NONE) {
            walls.settle(seeker.found, fresh, net, lawNow);
        }
        return room;
    }

    public int count(int what) {
        switch (what) {
            case 0:
                return net.hosts;
            case 1:
                return diary.size;
            case 2:
                return walls.layout.roomCount();
            case 3:
                return walls.rules;
            case 4:
                return walls.layout.strays;
            case 5:
                return walls.made ? walls.cost : NONE;
            default:
                return NONE;
        }
    }

    private static boolean isBetween(int number, int least, int most) {
        return number >= least && number <= most;
    }

    private static boolean isDay(int day) {
        return isBetween(day, 0, DAYS - 1);
    }

    /** Of two hosts, or of two rooms: there are never more rooms than hosts. */
    private static int pairOf(int first, int second) {
        return first * MOST_HOSTS + second;
    }

    /** A way (of hosts) and a rule (of rooms) are numbered alike, in the order that rules have. */
    private static int wayOf(int first, int second, int door) {
        return pairOf(first, second) * DOORS + door;
    }

    private static int firstOf(int way) {
        return way / DOORS / MOST_HOSTS;
    }

    private static int secondOf(int way) {
        return way / DOORS % MOST_HOSTS;
    }

    private static int doorOf(int way) {
        return way % DOORS;
    }

    private static boolean hasDoor(int doors, int door) {
        return (doors >> door & 1) == 1;
    }

    /** Turns a door's bit, unless the other row holds it: no way is both a must and barred. */
    private static boolean turnDoor(int[] row, int[] other, int pair, int door, boolean on) {
        if (hasDoor(other[pair], door) || hasDoor(row[pair], door) == on) {
            return false;
        }
        row[pair] ^= 1 << door;
        return true;
    }

    /** The law and the prices. */
    private static final class Law {
        private int window = 7;
        private int least = 1;
        private boolean strict = false;
        private int rulePrice = 5;
        private int strayPrice = 1;

        int costOf(int rules, int strays) {
            return rules * rulePrice + strays * strayPrice;
        }
    }

    /** The hosts, and what was told of the ways between them: bits of doors for each pair. */
    private static final class Net {
        private final int[] marks = new int[MOST_HOSTS];
        private final int[] musts = new int[PAIRS];
        private final int[] bars = new int[PAIRS];
        private int hosts = 0;

        int addHost(int mark) {
            if (hosts >= MOST_HOSTS) {
                return NONE;
            }
            marks[hosts] = mark;
            hosts++;
            return hosts - 1;
        }

        boolean isHost(int host) {
            return isBetween(host, 0, hosts - 1);
        }

        boolean isWay(int from, int to, int door) {
            return isHost(from) && isHost(to) && from != to && isBetween(door, 0, DOORS - 1);
        }

        boolean isNeed(int pair, int door, int sum, int least) {
            return hasDoor(musts[pair], door) || !hasDoor(bars[pair], door) && sum >= least;
        }
    }

    /** The talks, in the order in which they were told. */
    private static final class Diary {
        private final int[] wayAt = new int[MOST_TALKS];
        private final int[] dayAt = new int[MOST_TALKS];
        private final int[] countAt = new int[MOST_TALKS];
        private int size = 0;

        int write(int way, int day, int count) {
            if (size >= MOST_TALKS) {
                return NONE;
            }
            wayAt[size] = way;
            dayAt[size] = day;
            countAt[size] = count;
            size++;
            return size;
        }

        boolean isWithin(int told, int day, int window) {
            return dayAt[told] <= day && dayAt[told] > day - window;
        }

        int sumOf(int way, int day, int window) {
            int sum = 0;
            for (int i = 0; i < size; i++) {
                if (wayAt[i] == way && isWithin(i, day, window)) {
                    sum += countAt[i];
                }
            }
            return sum;
        }

        void sumAll(int[] sums, int day, int window) {
            Arrays.fill(sums, 0);
            for (int i = 0; i < size; i++) {
                if (isWithin(i, day, window)) {
                    sums[wayAt[i]] += countAt[i];
                }
            }
        }
    }

    /** What is needed on a day, as bits of doors for each pair of hosts, and the weights of all ways. */
    private static final class Needs {
        private final int[] doors = new int[PAIRS];
        private final int[] weights = new int[WAYS];

        void take(Net net, Law law, Diary diary, int day) {
            diary.sumAll(weights, day, law.window);
            for (int pair = 0; pair < PAIRS; pair++) {
                doors[pair] = doorsOf(pair, net, law.least);
            }
        }

        private int doorsOf(int pair, Net net, int least) {
            int bits = 0;
            for (int door = 0; door < DOORS; door++) {
                if (net.isNeed(pair, door, weights[pair * DOORS + door], least)) {
                    bits |= 1 << door;
                }
            }
            return bits;
        }

        void copyFrom(Needs other) {
            System.arraycopy(other.doors, 0, doors, 0, PAIRS);
            System.arraycopy(other.weights, 0, weights, 0, WAYS);
        }

        int total() {
            int sum = 0;
            for (int pair = 0; pair < PAIRS; pair++) {
                sum += Integer.bitCount(doors[pair]);
            }
            return sum;
        }
    }

    /** Who is in which room, and by which doors the hosts of one room are let to those of another. */
    private static final class Layout {
        private final int[] roomOf = new int[MOST_HOSTS];
        private final int[] doors = new int[PAIRS];
        private int rules = 0;
        private int strays = 0;
        private boolean letsBarred = false;

        Layout() {
            Arrays.fill(roomOf, NONE);
        }

        boolean areIn(int from, int to) {
            return roomOf[from] != NONE && roomOf[to] != NONE;
        }

        /** Both hosts are in rooms. */
        int doorsBetween(int from, int to) {
            return doors[pairOf(roomOf[from], roomOf[to])];
        }

        boolean isLet(int from, int to, int door) {
            return areIn(from, to) && hasDoor(doorsBetween(from, to), door);
        }

        int roomCount() {
            int most = NONE;
            for (int host = 0; host < MOST_HOSTS; host++) {
                most = Math.max(most, roomOf[host]);
            }
            return most + 1;
        }

        void copyRooms(int[] rooms) {
            System.arraycopy(rooms, 0, roomOf, 0, MOST_HOSTS);
        }

        boolean hasUnlike(int host, int[] marks) {
            for (int other = 0; other < MOST_HOSTS; other++) {
                if (roomOf[other] == roomOf[host] && marks[other] != marks[host]) {
                    return true;
                }
            }
            return false;
        }

        /** Opens the doors that the rooms of the first so many hosts need, and counts what comes of it. */
        void draw(int[] needs, int[] bars, int hosts) {
            openRooms();
            for (int from = 0; from < hosts; from++) {
                if (roomOf[from] != NONE) {
                    openDoorsFrom(from, needs, hosts);
                }
            }
            strays = 0;
            letsBarred = false;
            for (int from = 0; from < hosts; from++) {
                if (roomOf[from] != NONE) {
                    countStraysFrom(from, needs, bars, hosts);
                }
            }
        }

        private void openRooms() {
            rules = 0;
            Arrays.fill(doors, 0);
            for (int room = 0; room < MOST_HOSTS; room++) {
                doors[pairOf(room, room)] = ALL_DOORS;
            }
        }

        private void openDoorsFrom(int from, int[] needs, int hosts) {
            int ownRoom = roomOf[from];
            for (int to = 0; to < hosts; to++) {
                int need = needs[pairOf(from, to)];
                if (need != 0 && roomOf[to] != NONE) {
                    // Within a room every door is open already, so what is opened here is a rule.
                    int pair = pairOf(ownRoom, roomOf[to]);
                    rules += Integer.bitCount(need & ~doors[pair]);
                    doors[pair] |= need;
                }
            }
        }

        private void countStraysFrom(int from, int[] needs, int[] bars, int hosts) {
            int ownRoom = roomOf[from];
            for (int to = 0; to < hosts; to++) {
                int open = roomOf[to] == NONE || to == from ? 0 : doors[pairOf(ownRoom, roomOf[to])];
                if (open != 0) {
                    int pair = pairOf(from, to);
                    strays += Integer.bitCount(open & ~needs[pair]);
                    letsBarred = letsBarred || (open & bars[pair]) != 0;
                }
            }
        }
    }

    /** Seeks the rooms of all hosts, or the room of one more, by the least cost. */
    private static final class Seeker {
        private final Layout trial = new Layout();
        private final int[] roomsBefore = new int[MOST_HOSTS];
        private final int[] found = new int[MOST_HOSTS];
        private int trialCost = 0;
        private int leastCost = 0;

        /**
         * Goes through all rooms of hosts 0, 1, 2, .. in turn, the first of equals first. Each host that comes
         * makes no rule, stray or barred way fewer, so what is too dear with some hosts is left there.
         */
        void seekRooms(Net net, Law law, Needs needs) {
            // Hosts each in a room alone can always be, at this cost: nothing dearer need be looked at.
            leastCost = law.costOf(needs.total(), 0) + 1;
            Arrays.fill(trial.roomOf, NONE);
            Arrays.fill(found, NONE);
            roomsBefore[0] = 0;
            int host = 0;
            for (int step = 0; step < MOST_STEPS && host >= 0; step++) {
                trial.roomOf[host]++;
                if (trial.roomOf[host] > roomsBefore[host]) {
                    trial.roomOf[host] = NONE;
                    host--;
                } else if (isCheaper(host, host + 1, net, law, needs)) {
                    host = goOn(host, net.hosts);
                }
            }
        }

        private int goOn(int host, int hosts) {
            if (host + 1 >= hosts) {
                keepTrial();
                return host;
            }
            roomsBefore[host + 1] = Math.max(roomsBefore[host], trial.roomOf[host] + 1);
            return host + 1;
        }

        /** All others stay where they are in the plan; answers NONE if the host can be nowhere. */
        int seekRoomFor(int host, Plan plan, Net net, Law law, Needs needs) {
            // There are never more rules than ways, nor more strays: every room is cheaper than this.
            leastCost = law.costOf(WAYS, WAYS) + 1;
            trial.copyRooms(plan.layout.roomOf);
            int rooms = trial.roomCount();
            int best = NONE;
            for (int room = 0; room <= rooms && room < MOST_HOSTS; room++) {
                trial.roomOf[host] = room;
                if (isCheaper(host, net.hosts, net, law, needs)) {
                    keepTrial();
                    best = room;
                }
            }
            return best;
        }

        /** Whether the host may be in its room on trial, and the first so many hosts cost less than the best. */
        private boolean isCheaper(int host, int hosts, Net net, Law law, Needs needs) {
            if (law.strict && trial.hasUnlike(host, net.marks)) {
                return false;
            }
            trial.draw(needs.doors, net.bars, hosts);
            trialCost = law.costOf(trial.rules, trial.strays);
            return !trial.letsBarred && trialCost < leastCost;
        }

        private void keepTrial() {
            System.arraycopy(trial.roomOf, 0, found, 0, MOST_HOSTS);
            leastCost = trialCost;
        }
    }

    /** The plan as it was made, or as it was when a host was put into it last. */
    private static final class Plan {
        private final Layout layout = new Layout();
        private final Needs needs = new Needs();
        private final int[] ruleAt = new int[MOST_RULES];
        private int rules = 0;
        private int cost = 0;
        private boolean made = false;

        void settle(int[] roomOf, Needs fresh, Net net, Law law) {
            layout.copyRooms(roomOf);
            needs.copyFrom(fresh);
            layout.draw(needs.doors, net.bars, net.hosts);
            cost = law.costOf(layout.rules, layout.strays);
            made = true;
            listRules();
        }

        private void listRules() {
            rules = 0;
            for (int rule = 0; rule < WAYS; rule++) {
                boolean between = firstOf(rule) != secondOf(rule);
                if (between && hasDoor(layout.doors[rule / DOORS], doorOf(rule)) && rules < MOST_RULES) {
                    ruleAt[rules] = rule;
                    rules++;
                }
            }
        }

        private boolean isBy(int rule, int from, int to) {
            return layout.roomOf[from] == firstOf(rule) && layout.roomOf[to] == secondOf(rule);
        }

        private boolean isNeedBy(int rule, int from, int to) {
            return isBy(rule, from, to) && hasDoor(needs.doors[pairOf(from, to)], doorOf(rule));
        }

        int waysBy(int rule) {
            int ways = 0;
            for (int from = 0; from < MOST_HOSTS; from++) {
                for (int to = 0; to < MOST_HOSTS; to++) {
                    if (isNeedBy(rule, from, to)) {
                        ways++;
                    }
                }
            }
            return ways;
        }

        /** The weights of what is needed by the rule, each taken for so much at least. */
        int weightBy(int rule, int atLeast) {
            int sum = 0;
            for (int from = 0; from < MOST_HOSTS; from++) {
                for (int to = 0; to < MOST_HOSTS; to++) {
                    if (isNeedBy(rule, from, to)) {
                        sum += Math.max(atLeast, needs.weights[wayOf(from, to, doorOf(rule))]);
                    }
                }
            }
            return sum;
        }

        /** Any way by the rule counts: one that was a stray when the plan was made may be a must by now. */
        boolean isMustBy(int rule, int[] musts) {
            for (int from = 0; from < MOST_HOSTS; from++) {
                for (int to = 0; to < MOST_HOSTS; to++) {
                    if (isBy(rule, from, to) && hasDoor(musts[pairOf(from, to)], doorOf(rule))) {
                        return true;
                    }
                }
            }
            return false;
        }
    }

    /**
     * To which rooms one comes from which, as bits of rooms. All hosts of a room come to the same ones, so rooms
     * stand for their hosts here.
     */
    private static final class Spreading {
        private final int[] sizes = new int[MOST_HOSTS];
        private final int[] next = new int[MOST_HOSTS];
        private int rooms = 0;

        void follow(Plan plan) {
            begin(plan.layout);
            for (int k = 0; k < plan.rules; k++) {
                addRule(plan.ruleAt[k]);
            }
            chain();
        }

        void begin(Layout layout) {
            rooms = layout.roomCount();
            for (int room = 0; room < MOST_HOSTS; room++) {
                sizes[room] = 0;
                next[room] = 1 << room;
            }
            for (int host = 0; host < MOST_HOSTS; host++) {
                if (layout.roomOf[host] != NONE) {
                    sizes[layout.roomOf[host]]++;
                }
            }
        }

        void addRule(int rule) {
            next[firstOf(rule)] |= 1 << secondOf(rule);
        }

        void chain() {
            for (int between = 0; between < rooms; between++) {
                for (int room = 0; room < rooms; room++) {
                    if ((next[room] >> between & 1) == 1) {
                        next[room] |= next[between];
                    }
                }
            }
        }

        int othersFrom(int room) {
            int hosts = 0;
            for (int other = 0; other < rooms; other++) {
                if ((next[room] >> other & 1) == 1) {
                    hosts += sizes[other];
                }
            }
            return hosts - 1;
        }

        int widest() {
            int most = NONE;
            for (int room = 0; room < rooms; room++) {
                most = Math.max(most, othersFrom(room));
            }
            return most;
        }

        int firstWith(int others, Layout layout) {
            for (int host = 0; host < MOST_HOSTS; host++) {
                if (layout.roomOf[host] != NONE && othersFrom(layout.roomOf[host]) == others) {
                    return host;
                }
            }
            return NONE;
        }
    }

    /** Seeks the rules to shut, and keeps those of the latest set that it found. */
    private static final class Shutter {
        private final Spreading spreading = new Spreading();
        private final int[] fixed = new int[MOST_HOSTS];
        private final int[] canAt = new int[MOST_SHUT];
        private final int[] ruleAt = new int[MOST_SHUT];
        private final int[] tollAt = new int[MOST_SHUT];
        private int cans = 0;
        private final int[] chosen = new int[MOST_SHUT];
        private int chosenCount = 0;

        int seekSet(Plan plan, int[] musts, int most) {
            if (!gatherCans(plan, musts)) {
                return SPENT;
            }
            int sets = 1 << cans;
            // Shutting more never spreads more: if all of them are not enough, no set is.
            if (widestWithout(sets - 1) > most) {
                return NONE;
            }
            int best = sets - 1;
            int least = tollOf(best);
            for (int set = 0; set < sets; set++) {
                int toll = tollOf(set);
                if (toll < least && widestWithout(set) <= most) {
                    best = set;
                    least = toll;
                }
            }
            choose(best);
            return least;
        }

        /** False if there are too many; the rules that can't be shut are laid down as fixed. */
        private boolean gatherCans(Plan plan, int[] musts) {
            cans = 0;
            spreading.begin(plan.layout);
            for (int k = 0; k < plan.rules; k++) {
                int rule = plan.ruleAt[k];
                if (plan.isMustBy(rule, musts)) {
                    spreading.addRule(rule);
                } else if (cans >= MOST_SHUT) {
                    return false;
                } else {
                    canAt[cans] = k;
                    ruleAt[cans] = rule;
                    tollAt[cans] = plan.weightBy(rule, 1);
                    cans++;
                }
            }
            System.arraycopy(spreading.next, 0, fixed, 0, MOST_HOSTS);
            return true;
        }

        private int tollOf(int set) {
            int toll = 0;
            for (int i = 0; i < cans; i++) {
                if ((set >> i & 1) == 1) {
                    toll += tollAt[i];
                }
            }
            return toll;
        }

        private int widestWithout(int set) {
            System.arraycopy(fixed, 0, spreading.next, 0, MOST_HOSTS);
            for (int i = 0; i < cans; i++) {
                if ((set >> i & 1) == 0) {
                    spreading.addRule(ruleAt[i]);
                }
            }
            spreading.chain();
            return spreading.widest();
        }

        private void choose(int set) {
            chosenCount = 0;
            for (int i = 0; i < cans; i++) {
                if ((set >> i & 1) == 1) {
                    chosen[chosenCount] = canAt[i];
                    chosenCount++;
                }
            }
        }
    }

    /** The odd talks of the latest day asked for; talks never change, so their numbers are enough. */
    private static final class OddList {
        private final int[] talkAt = new int[MOST_TALKS];
        private final int[] nearAt = new int[MOST_TALKS];
        private int size = 0;

        void gather(Diary diary, Layout layout, int day) {
            size = 0;
            for (int told = 0; told < diary.size; told++) {
                int way = diary.wayAt[told];
                if (diary.dayAt[told] == day && !layout.isLet(firstOf(way), secondOf(way), doorOf(way))) {
                    talkAt[size] = told;
                    nearAt[size] = nearnessOf(way, layout);
                    size++;
                }
            }
        }

        private static int nearnessOf(int way, Layout layout) {
            int from = firstOf(way);
            int to = secondOf(way);
            if (!layout.areIn(from, to)) {
                return 0;
            }
            // The way itself is not let, so any door that is open this way is another one.
            int sameWay = layout.doorsBetween(from, to) != 0 ? 1 : 0;
            int otherWay = hasDoor(layout.doorsBetween(to, from), doorOf(way)) ? 2 : 0;
            return sameWay + otherWay;
        }
    }
}
