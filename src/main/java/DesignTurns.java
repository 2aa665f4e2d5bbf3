import java.util.Arrays;

/**
 * Tasks of making a thing that need one another's answers: which of them stand in rings, in what
 * order the least is guessed, how long it takes when one goes back by chances, who works in a team,
 * and how far a change comes.
 */
public final class DesignTurns {
    public static final int UNKNOWN = -1, BAD = -2, STATE = -3, FULL = -4, NONE = -9;

    private static final int MOST_TASKS = 8;
    private static final int MOST_TIME = 20;
    private static final int MOST_STRENGTH = 9;
    private static final int MOST_TENTHS = 8;
    private static final int MOST_THOUSANDTHS = 1000;
    // Euclid's steps on two longs are fewer than a hundred.
    private static final int MOST_DIVISIONS = 100;
    // Far above the sum of all strengths that there can be.
    private static final int ABOVE_ALL_SUMS = 1_000_000;

    private final int[] times = new int[MOST_TASKS];
    private final Table needs = new Table();
    private final Table chances = new Table();
    private final Order toldOrder = new Order();
    private final Rings rings = new Rings();
    private final LeastSearch leastSearch = new LeastSearch();
    private final Returns returns = new Returns();
    private final Beside beside = new Beside();
    private final TeamSearch teamSearch = new TeamSearch();
    private final Spread spread = new Spread();
    private int count;

    public DesignTurns() {
        count = 0;
    }

    // ---- tasks, needs

    public int task(int time) {
        if (!isTime(time)) {
            return BAD;
        }
        if (count >= MOST_TASKS) {
            return FULL;
        }
        int number = count;
        times[number] = time;
        count = number + 1;
        toldOrder.restart(count);
        return number;
    }

    public int time(int task, int time) {
        if (!isTask(task)) {
            return UNKNOWN;
        }
        if (!isTime(time)) {
            return BAD;
        }
        int before = times[task];
        times[task] = time;
        return before;
    }

    public int need(int a, int b, int strength) {
        if (!isTask(a) || !isTask(b)) {
            return UNKNOWN;
        }
        if (strength < 0 || strength > MOST_STRENGTH) {
            return BAD;
        }
        if (a == b) {
            return STATE;
        }
        return needs.put(a, b, strength);
    }

    public int strength(int a, int b) {
        if (!isTask(a) || !isTask(b)) {
            return UNKNOWN;
        }
        return needs.get(a, b);
    }

    public int leans(int a, int b) {
        if (!isTask(a) || !isTask(b)) {
            return UNKNOWN;
        }
        rings.find(count, needs);
        return rings.isLeaning(a, b) ? 1 : 0;
    }

    public int blocks() {
        rings.find(count, needs);
        return rings.howMany();
    }

    public int block(int task) {
        if (!isTask(task)) {
            return UNKNOWN;
        }
        rings.find(count, needs);
        return rings.numberOf(task);
    }

    // ---- orders

    public int least() {
        return leastSearch.leastGuess(count, needs);
    }

    public int leastAt(int place) {
        if (place < 0 || place >= count) {
            return NONE;
        }
        return leastSearch.find(count, needs).taskAt(place);
    }

    public int saved(int a, int b) {
        if (!isTask(a) || !isTask(b)) {
            return UNKNOWN;
        }
        int with = leastSearch.leastGuess(count, needs);
        int strength = needs.put(a, b, 0);
        int without = leastSearch.leastGuess(count, needs);
        needs.put(a, b, strength);
        return with - without;
    }

    public int at(int place) {
        return toldOrder.taskAt(place);
    }

    public int swap(int i, int j) {
        if (!toldOrder.hasPlace(i) || !toldOrder.hasPlace(j)) {
            return BAD;
        }
        toldOrder.exchange(i, j);
        return toldOrder.guessOf(needs);
    }

    public int take() {
        toldOrder.become(leastSearch.find(count, needs));
        return toldOrder.guessOf(needs);
    }

    public int guess() {
        return toldOrder.guessOf(needs);
    }

    public int torn(int a, int b) {
        if (!isTask(a) || !isTask(b)) {
            return UNKNOWN;
        }
        return needs.get(a, b) > 0 && toldOrder.placeOf(b) > toldOrder.placeOf(a) ? 1 : 0;
    }

    // ---- going back

    public int chance(int a, int b, int tenths) {
        if (!isTask(a) || !isTask(b)) {
            return UNKNOWN;
        }
        if (tenths < 0 || tenths > MOST_TENTHS) {
            return BAD;
        }
        if (a == b || chances.sumOfRow(a) - chances.get(a, b) + tenths > MOST_TENTHS) {
            return STATE;
        }
        return chances.put(a, b, tenths);
    }

    public long mean(boolean upper) {
        returns.reckon(toldOrder, chances, times);
        return inLeastTerms(returns.above(), returns.below(), upper);
    }

    public long often(int task, boolean upper) {
        if (!isTask(task)) {
            return UNKNOWN;
        }
        returns.reckonOne(toldOrder, chances, task);
        return inLeastTerms(returns.above(), returns.below(), upper);
    }

    public int ends(int task) {
        if (!isTask(task)) {
            return UNKNOWN;
        }
        beside.reckon(toldOrder, needs, times);
        return beside.endAt(toldOrder.placeOf(task));
    }

    public int span() {
        beside.reckon(toldOrder, needs, times);
        return beside.latest();
    }

    // ---- teams, changes

    public int between(int k) {
        if (!isTeamSize(k)) {
            return BAD;
        }
        teamSearch.find(count, needs, k);
        return teamSearch.leastBetween();
    }

    public int team(int k, int task) {
        if (!isTask(task)) {
            return UNKNOWN;
        }
        if (!isTeamSize(k)) {
            return BAD;
        }
        teamSearch.find(count, needs, k);
        return teamSearch.teamOf(task);
    }

    public long force(int a, int b, boolean upper) {
        if (!isTask(a) || !isTask(b)) {
            return UNKNOWN;
        }
        spread.from(a, count, needs);
        return inLeastTerms(spread.forceAt(b), Spread.WHOLE, upper);
    }

    public int reach(int task, int thousandths) {
        if (!isTask(task)) {
            return UNKNOWN;
        }
        if (thousandths < 1 || thousandths > MOST_THOUSANDTHS) {
            return BAD;
        }
        spread.from(task, count, needs);
        int itself = 1;
        return spread.howMany(Spread.WHOLE / MOST_THOUSANDTHS * thousandths) - itself;
    }

    public int total(int what) {
        switch (what) {
            case 0:
                return count;
            case 1:
                return needs.howMany();
            case 2:
                return needs.sum();
            case 3:
                return chances.howMany();
            case 4:
                return sumOfTimes();
            default:
                return BAD;
        }
    }

    private boolean isTask(int task) {
        return task >= 0 && task < count && task < MOST_TASKS;
    }

    private static boolean isTime(int time) {
        return time >= 1 && time <= MOST_TIME;
    }

    private static boolean isTeamSize(int k) {
        return k >= 1 && k <= MOST_TASKS;
    }

    private int sumOfTimes() {
        int sum = 0;
        for (int time : times) {
            sum += time;
        }
        return sum;
    }

    private static long inLeastTerms(long above, long below, boolean upper) {
        long divisor = commonDivisor(above, below);
        if (divisor <= 0) {
            return 0;
        }
        return (upper ? above : below) / divisor;
    }

    private static long commonDivisor(long a, long b) {
        long greater = a;
        long less = b;
        for (int step = 0; step < MOST_DIVISIONS && less != 0; step++) {
            long rest = greater % less;
            greater = less;
            less = rest;
        }
        return greater;
    }

    /** What a row tells of a task; an order's word for a task may be NONE, and then it is 0. */
    private static int valueOf(int[] row, int task) {
        return task >= 0 && task < row.length ? row[task] : 0;
    }

    /** A number for each two tasks, 0 where none was put. */
    private static final class Table {
        private final int[] values = new int[MOST_TASKS * MOST_TASKS];

        int get(int a, int b) {
            return holds(a, b) ? values[a * MOST_TASKS + b] : 0;
        }

        int bothWays(int a, int b) {
            return get(a, b) + get(b, a);
        }

        int put(int a, int b, int value) {
            if (!holds(a, b)) {
                return 0;
            }
            int index = a * MOST_TASKS + b;
            int before = values[index];
            values[index] = value;
            return before;
        }

        int sumOfRow(int a) {
            int sum = 0;
            for (int b = 0; b < MOST_TASKS; b++) {
                sum += get(a, b);
            }
            return sum;
        }

        int sum() {
            int sum = 0;
            for (int value : values) {
                sum += value;
            }
            return sum;
        }

        int howMany() {
            int many = 0;
            for (int value : values) {
                many += value != 0 ? 1 : 0;
            }
            return many;
        }

        private static boolean holds(int a, int b) {
            return a >= 0 && a < MOST_TASKS && b >= 0 && b < MOST_TASKS;
        }
    }

    /** Tasks in a row, each of them once. */
    private static final class Order {
        private final int[] tasks = new int[MOST_TASKS];
        private int length;

        boolean hasPlace(int place) {
            return place >= 0 && place < length && place < MOST_TASKS;
        }

        int length() {
            return length;
        }

        int taskAt(int place) {
            return hasPlace(place) ? tasks[place] : NONE;
        }

        int placeOf(int task) {
            for (int place = 0; place < length && place < MOST_TASKS; place++) {
                if (tasks[place] == task) {
                    return place;
                }
            }
            return NONE;
        }

        void clear() {
            length = 0;
        }

        void add(int task) {
            if (length >= 0 && length < MOST_TASKS) {
                tasks[length] = task;
                length++;
            }
        }

        void restart(int count) {
            clear();
            for (int task = 0; task < count; task++) {
                add(task);
            }
        }

        void become(Order other) {
            clear();
            for (int place = 0; place < other.length(); place++) {
                add(other.taskAt(place));
            }
        }

        void exchange(int i, int j) {
            if (hasPlace(i) && hasPlace(j)) {
                int task = tasks[i];
                tasks[i] = tasks[j];
                tasks[j] = task;
            }
        }

        int guessOf(Table needs) {
            int guess = 0;
            for (int ahead = 0; ahead < length; ahead++) {
                for (int behind = ahead + 1; behind < length; behind++) {
                    guess += needs.get(taskAt(ahead), taskAt(behind));
                }
            }
            return guess;
        }
    }

    /** Which tasks lean on which, and the blocks of those that lean on one another. */
    private static final class Rings {
        // Bit b of row a: a leans on b.
        private final int[] leaning = new int[MOST_TASKS];
        private final int[] numbers = new int[MOST_TASKS];
        private int many;

        boolean isLeaning(int a, int b) {
            return b >= 0 && b < MOST_TASKS && (valueOf(leaning, a) & 1 << b) != 0;
        }

        int howMany() {
            return many;
        }

        int numberOf(int task) {
            return valueOf(numbers, task);
        }

        void find(int count, Table needs) {
            lean(count, needs);
            number(count);
        }

        private void lean(int count, Table needs) {
            for (int a = 0; a < count && a < MOST_TASKS; a++) {
                leaning[a] = 0;
                for (int b = 0; b < count; b++) {
                    leaning[a] |= needs.get(a, b) > 0 ? 1 << b : 0;
                }
            }
            for (int middle = 0; middle < count && middle < MOST_TASKS; middle++) {
                for (int a = 0; a < count && a < MOST_TASKS; a++) {
                    leaning[a] |= isLeaning(a, middle) ? leaning[middle] : 0;
                }
            }
        }

        private void number(int count) {
            int left = (1 << count) - 1;
            many = 0;
            for (int round = 0; round < count && left != 0; round++) {
                int members = nextBlock(count, left);
                for (int task = 0; task < count && task < MOST_TASKS; task++) {
                    if ((members & 1 << task) != 0) {
                        numbers[task] = many;
                    }
                }
                left &= ~members;
                many++;
            }
        }

        /** The first task left that leans on none left outside its block is its block's least. */
        private int nextBlock(int count, int left) {
            for (int task = 0; task < count; task++) {
                int members = blockAround(task, count);
                if ((left & 1 << task) != 0 && (valueOf(leaning, task) & left & ~members) == 0) {
                    return members;
                }
            }
            return 0;
        }

        private int blockAround(int task, int count) {
            int members = 1 << task;
            for (int other = 0; other < count; other++) {
                members |= isLeaning(task, other) && isLeaning(other, task) ? 1 << other : 0;
            }
            return members;
        }
    }

    /** The order with the least guess, found by the sets of tasks that may stand ahead. */
    private static final class LeastSearch {
        // For each set of tasks that stand ahead: the least guess of all the others.
        private final int[] guesses = new int[1 << MOST_TASKS];
        private final Order order = new Order();

        int leastGuess(int count, Table needs) {
            int all = (1 << count) - 1;
            for (int ahead = all; ahead >= 0 && ahead < guesses.length; ahead--) {
                guesses[ahead] = ahead == all ? 0 : leastAfter(ahead, count, needs);
            }
            return guesses[0];
        }

        Order find(int count, Table needs) {
            leastGuess(count, needs);
            order.clear();
            int ahead = 0;
            for (int place = 0; place < count; place++) {
                int task = firstOfLeast(ahead, count, needs);
                order.add(task);
                ahead |= 1 << task;
            }
            return order;
        }

        private int leastAfter(int ahead, int count, Table needs) {
            int least = ABOVE_ALL_SUMS;
            for (int task = 0; task < count; task++) {
                if ((ahead & 1 << task) == 0) {
                    least = Math.min(least, guessWithNext(task, ahead, count, needs));
                }
            }
            return least;
        }

        /** The least task that may come next, so that of like orders the first is laid. */
        private int firstOfLeast(int ahead, int count, Table needs) {
            for (int task = 0; task < count; task++) {
                if ((ahead & 1 << task) == 0
                        && guessWithNext(task, ahead, count, needs) == valueOf(guesses, ahead)) {
                    return task;
                }
            }
            return 0;
        }

        private int guessWithNext(int task, int ahead, int count, Table needs) {
            int guess = valueOf(guesses, ahead | 1 << task);
            for (int behind = 0; behind < count; behind++) {
                if ((ahead & 1 << behind) == 0) {
                    guess += needs.get(task, behind);
                }
            }
            return guess;
        }
    }

    /** The mean of what is spent when one goes back by chances, as a fraction. */
    private static final class Returns {
        // What is spent on the mean from coming to a place till going on from it; all by `below`.
        private final long[] spent = new long[MOST_TASKS];
        private final int[] costsOfOne = new int[MOST_TASKS];
        private long below = 1;

        long above() {
            long sum = 0;
            for (long part : spent) {
                sum += part;
            }
            return sum;
        }

        long below() {
            return below;
        }

        /** How often a task is done is the mean when it alone costs anything, and costs 1. */
        void reckonOne(Order order, Table chances, int task) {
            for (int other = 0; other < MOST_TASKS; other++) {
                costsOfOne[other] = other == task ? 1 : 0;
            }
            reckon(order, chances, costsOfOne);
        }

        void reckon(Order order, Table chances, int[] costs) {
            Arrays.fill(spent, 0);
            below = 1;
            for (int place = 0; place < order.length() && place < MOST_TASKS; place++) {
                int task = order.taskAt(place);
                int back = 0;
                long above = 10 * below * valueOf(costs, task);
                for (int goal = 0; goal < place; goal++) {
                    int tenths = chances.get(task, order.taskAt(goal));
                    back += tenths;
                    above += tenths * spentFrom(goal, place);
                }
                refine(10 - back, place);
                spent[place] = above;
            }
        }

        private long spentFrom(int first, int end) {
            long sum = 0;
            for (int place = Math.max(first, 0); place < end && place < MOST_TASKS; place++) {
                sum += spent[place];
            }
            return sum;
        }

        private void refine(int factor, int end) {
            below *= factor;
            for (int place = 0; place < end && place < MOST_TASKS; place++) {
                spent[place] *= factor;
            }
        }
    }

    /** When tasks end that are done beside one another. */
    private static final class Beside {
        private final int[] endsByPlace = new int[MOST_TASKS];

        int endAt(int place) {
            return valueOf(endsByPlace, place);
        }

        int latest() {
            int latest = 0;
            for (int end : endsByPlace) {
                latest = Math.max(latest, end);
            }
            return latest;
        }

        void reckon(Order order, Table needs, int[] times) {
            Arrays.fill(endsByPlace, 0);
            for (int place = 0; place < order.length() && place < MOST_TASKS; place++) {
                int task = order.taskAt(place);
                int begin = 0;
                for (int ahead = 0; ahead < place; ahead++) {
                    if (needs.get(task, order.taskAt(ahead)) > 0) {
                        begin = Math.max(begin, endsByPlace[ahead]);
                    }
                }
                endsByPlace[place] = begin + valueOf(times, task);
            }
        }
    }

    /** The best teams, sought task by task in the order in which like ones come first. */
    private static final class TeamSearch {
        private final int[] tried = new int[MOST_TASKS];
        private final int[] best = new int[MOST_TASKS];
        private final int[] sizes = new int[MOST_TASKS];
        private int count;
        private int mostInTeam;
        private int leastBetween;
        private int fewest;

        int leastBetween() {
            return leastBetween;
        }

        int teamOf(int task) {
            return valueOf(best, task);
        }

        void find(int tasks, Table needs, int k) {
            Arrays.fill(sizes, 0);
            count = Math.min(tasks, MOST_TASKS);
            mostInTeam = k;
            leastBetween = ABOVE_ALL_SUMS;
            fewest = ABOVE_ALL_SUMS;
            assign(this, needs, 0, 0, 0);
        }

        /** Puts a task into each team that it may join; the depth is the task's number. */
        private static void assign(TeamSearch search, Table needs, int task, int teams, int cut) {
            if (!search.mayBeBetter(teams, cut)) {
                return;
            }
            if (task < 0 || task >= search.count || task >= MOST_TASKS) {
                search.keep(teams, cut);
                return;
            }
            for (int team = 0; team <= teams && team < MOST_TASKS; team++) {
                if (search.sizes[team] < search.mostInTeam) {
                    search.tried[task] = team;
                    search.sizes[team]++;
                    int added = search.cutBefore(task, team, needs);
                    assign(search, needs, task + 1, Math.max(teams, team + 1), cut + added);
                    search.sizes[team]--;
                }
            }
        }

        /** More tasks never make what is between less, nor the teams fewer. */
        private boolean mayBeBetter(int teams, int cut) {
            return cut < leastBetween || cut == leastBetween && teams < fewest;
        }

        private void keep(int teams, int cut) {
            leastBetween = cut;
            fewest = teams;
            System.arraycopy(tried, 0, best, 0, MOST_TASKS);
        }

        private int cutBefore(int task, int team, Table needs) {
            int cut = 0;
            for (int other = 0; other < task && other < MOST_TASKS; other++) {
                cut += tried[other] != team ? needs.bothWays(task, other) : 0;
            }
            return cut;
        }
    }

    /** How strongly a change of one task comes to the others. */
    private static final class Spread {
        // Ten to the seventh: a way has seven needs at most, so every force is a whole number of parts.
        private static final int WHOLE = 10_000_000;

        private final int[] forces = new int[MOST_TASKS];
        private int settled;

        int forceAt(int task) {
            return valueOf(forces, task);
        }

        int howMany(int leastForce) {
            int many = 0;
            for (int force : forces) {
                many += force >= leastForce ? 1 : 0;
            }
            return many;
        }

        /** No need strengthens a change, so the strongest task left can't be reached more strongly. */
        void from(int start, int count, Table needs) {
            for (int task = 0; task < MOST_TASKS; task++) {
                forces[task] = task == start ? WHOLE : 0;
            }
            settled = 0;
            for (int round = 0; round < count; round++) {
                int strongest = strongestLeft();
                settled |= 1 << strongest;
                passOn(strongest, needs);
            }
        }

        private int strongestLeft() {
            int strongest = 0;
            int most = -1;
            for (int task = 0; task < MOST_TASKS; task++) {
                if (isLeft(task) && forces[task] > most) {
                    strongest = task;
                    most = forces[task];
                }
            }
            return strongest;
        }

        private void passOn(int task, Table needs) {
            for (int next = 0; next < MOST_TASKS; next++) {
                if (isLeft(next)) {
                    int passed = forceAt(task) * needs.get(next, task) / 10;
                    forces[next] = Math.max(forces[next], passed);
                }
            }
        }

        private boolean isLeft(int task) {
            return (settled & 1 << task) == 0;
        }
    }
}
