import java.math.BigInteger;
import java.util.ArrayList;
import java.util.List;

/**
 * The document told a second time, in the plainest and slowest way: all orders, all teams, all ways,
 * and a system of equations for the mean.
 */
final class Model {
    private static final int UNKNOWN = -1, BAD = -2, STATE = -3, FULL = -4, NONE = -9;

    private final List<Integer> times = new ArrayList<>();
    private final int[][] needs = new int[8][8];
    private final int[][] chances = new int[8][8];
    private int[] told = new int[0];

    int task(int time) {
        if (time < 1 || time > 20) {
            return BAD;
        }
        if (times.size() == 8) {
            return FULL;
        }
        times.add(time);
        told = new int[times.size()];
        for (int i = 0; i < told.length; i++) {
            told[i] = i;
        }
        return times.size() - 1;
    }

    int time(int task, int time) {
        return !is(task) ? UNKNOWN : time < 1 || time > 20 ? BAD : times.set(task, time);
    }

    int need(int a, int b, int strength) {
        return !is(a) || !is(b) ? UNKNOWN : strength < 0 || strength > 9 ? BAD : a == b ? STATE
                : put(needs, a, b, strength);
    }

    int strength(int a, int b) {
        return !is(a) || !is(b) ? UNKNOWN : needs[a][b];
    }

    int leans(int a, int b) {
        return !is(a) || !is(b) ? UNKNOWN : leansOn(a, b) ? 1 : 0;
    }

    int blocks() {
        int most = -1;
        for (int number : numbers()) {
            most = Math.max(most, number);
        }
        return most + 1;
    }

    int block(int task) {
        return !is(task) ? UNKNOWN : numbers()[task];
    }

    int least() {
        return guessOf(leastOrder());
    }

    int leastAt(int place) {
        return place < 0 || place >= times.size() ? NONE : leastOrder()[place];
    }

    int saved(int a, int b) {
        if (!is(a) || !is(b)) {
            return UNKNOWN;
        }
        int with = least();
        int strength = put(needs, a, b, 0);
        int without = least();
        put(needs, a, b, strength);
        return with - without;
    }

    int at(int place) {
        return place < 0 || place >= told.length ? NONE : told[place];
    }

    int swap(int i, int j) {
        if (i < 0 || j < 0 || i >= told.length || j >= told.length) {
            return BAD;
        }
        int task = told[i];
        told[i] = told[j];
        told[j] = task;
        return guess();
    }

    int take() {
        told = leastOrder();
        return guess();
    }

    int guess() {
        return guessOf(told);
    }

    int torn(int a, int b) {
        return !is(a) || !is(b) ? UNKNOWN : needs[a][b] > 0 && placeOf(b) > placeOf(a) ? 1 : 0;
    }

    int chance(int a, int b, int tenths) {
        if (!is(a) || !is(b)) {
            return UNKNOWN;
        }
        if (tenths < 0 || tenths > 8) {
            return BAD;
        }
        int all = tenths;
        for (int other = 0; other < 8; other++) {
            all += other == b ? 0 : chances[a][other];
        }
        return a == b || all > 8 ? STATE : put(chances, a, b, tenths);
    }

    long mean(boolean upper) {
        Ratio sum = Ratio.of(0, 1);
        for (int task = 0; task < times.size(); task++) {
            sum = sum.plus(visits(task).times(Ratio.of(times.get(task), 1)));
        }
        return sum.part(upper);
    }

    long often(int task, boolean upper) {
        return !is(task) ? UNKNOWN : visits(task).part(upper);
    }

    int ends(int task) {
        return !is(task) ? UNKNOWN : endOf(task);
    }

    int span() {
        int latest = 0;
        for (int task = 0; task < times.size(); task++) {
            latest = Math.max(latest, endOf(task));
        }
        return latest;
    }

    int between(int k) {
        return k < 1 || k > 8 ? BAD : cut(bestTeams(k));
    }

    int team(int k, int task) {
        return !is(task) ? UNKNOWN : k < 1 || k > 8 ? BAD : bestTeams(k)[task];
    }

    long force(int a, int b, boolean upper) {
        return !is(a) || !is(b) ? UNKNOWN : strongest(a, b, 1 << a).part(upper);
    }

    int reach(int task, int thousandths) {
        if (!is(task)) {
            return UNKNOWN;
        }
        if (thousandths < 1 || thousandths > 1000) {
            return BAD;
        }
        int many = 0;
        for (int other = 0; other < times.size(); other++) {
            boolean far = strongest(task, other, 1 << task).compareTo(Ratio.of(thousandths, 1000)) >= 0;
            many += other != task && far ? 1 : 0;
        }
        return many;
    }

    int total(int what) {
        int[] sums = {times.size(), 0, 0, 0, 0};
        for (int a = 0; a < 8; a++) {
            for (int b = 0; b < 8; b++) {
                sums[1] += needs[a][b] > 0 ? 1 : 0;
                sums[2] += needs[a][b];
                sums[3] += chances[a][b] > 0 ? 1 : 0;
            }
        }
        for (int time : times) {
            sums[4] += time;
        }
        return what < 0 || what > 4 ? BAD : sums[what];
    }

    private boolean is(int task) {
        return task >= 0 && task < times.size();
    }

    private static int put(int[][] table, int a, int b, int value) {
        int before = table[a][b];
        table[a][b] = value;
        return before;
    }

    private boolean leansOn(int a, int b) {
        boolean[] met = new boolean[8];
        List<Integer> open = new ArrayList<>(List.of(a));
        while (!open.isEmpty()) {
            int task = open.remove(open.size() - 1);
            for (int other = 0; other < 8; other++) {
                if (needs[task][other] > 0 && !met[other]) {
                    met[other] = true;
                    open.add(other);
                }
            }
        }
        return met[b];
    }

    private boolean together(int a, int b) {
        return a == b || leansOn(a, b) && leansOn(b, a);
    }

    private int[] numbers() {
        int[] numbers = new int[times.size()];
        java.util.Arrays.fill(numbers, -1);
        for (int number = 0; ; number++) {
            int next = -1;
            for (int task = numbers.length - 1; task >= 0; task--) {
                next = numbers[task] < 0 && isReady(task, numbers) ? task : next;
            }
            if (next < 0) {
                return numbers;
            }
            for (int task = 0; task < numbers.length; task++) {
                numbers[task] = together(task, next) ? number : numbers[task];
            }
        }
    }

    private boolean isReady(int task, int[] numbers) {
        for (int a = 0; a < numbers.length; a++) {
            for (int b = 0; b < numbers.length; b++) {
                if (together(a, task) && needs[a][b] > 0 && !together(b, task) && numbers[b] < 0) {
                    return false;
                }
            }
        }
        return true;
    }

    private int guessOf(int[] order) {
        int guess = 0;
        for (int i = 0; i < order.length; i++) {
            for (int j = i + 1; j < order.length; j++) {
                guess += needs[order[i]][order[j]];
            }
        }
        return guess;
    }

    private int[] leastOrder() {
        int[] order = new int[times.size()];
        for (int i = 0; i < order.length; i++) {
            order[i] = i;
        }
        int[] best = order.clone();
        while (toNextOrder(order)) {
            if (guessOf(order) < guessOf(best)) {
                best = order.clone();
            }
        }
        return best;
    }

    private static boolean toNextOrder(int[] order) {
        int i = order.length - 2;
        while (i >= 0 && order[i] > order[i + 1]) {
            i--;
        }
        if (i < 0) {
            return false;
        }
        int j = order.length - 1;
        while (order[j] < order[i]) {
            j--;
        }
        exchange(order, i, j);
        for (int a = i + 1, b = order.length - 1; a < b; a++, b--) {
            exchange(order, a, b);
        }
        return true;
    }

    private static void exchange(int[] row, int i, int j) {
        int kept = row[i];
        row[i] = row[j];
        row[j] = kept;
    }

    private int placeOf(int task) {
        int place = 0;
        while (told[place] != task) {
            place++;
        }
        return place;
    }

    private int endOf(int task) {
        int begin = 0;
        for (int other = 0; other < times.size(); other++) {
            if (needs[task][other] > 0 && placeOf(other) < placeOf(task)) {
                begin = Math.max(begin, endOf(other));
            }
        }
        return begin + times.get(task);
    }

    /** Solves: visits of a place = 1 if it is the first + all visits of places by the chance from there. */
    private Ratio visits(int task) {
        int n = told.length;
        Ratio[][] rows = new Ratio[n][n + 1];
        for (int to = 0; to < n; to++) {
            for (int from = 0; from < n; from++) {
                rows[to][from] = Ratio.of(from == to ? 1 : 0, 1).minus(step(from, to));
            }
            rows[to][n] = Ratio.of(to == 0 ? 1 : 0, 1);
        }
        for (int column = 0; column < n; column++) {
            int pivot = column;
            while (rows[pivot][column].isZero()) {
                pivot++;
            }
            Ratio[] kept = rows[pivot];
            rows[pivot] = rows[column];
            rows[column] = kept;
            for (int row = 0; row < n; row++) {
                if (row != column) {
                    Ratio factor = rows[row][column].by(kept[column]);
                    for (int i = 0; i <= n; i++) {
                        rows[row][i] = rows[row][i].minus(factor.times(kept[i]));
                    }
                }
            }
        }
        int place = placeOf(task);
        return rows[place][n].by(rows[place][place]);
    }

    private Ratio step(int from, int to) {
        int back = 0;
        for (int place = 0; place < from; place++) {
            back += chances[told[from]][told[place]];
        }
        return to < from ? Ratio.of(chances[told[from]][told[to]], 10)
                : to == from + 1 ? Ratio.of(10 - back, 10) : Ratio.of(0, 1);
    }

    private int[] bestTeams(int k) {
        int n = times.size();
        int[] teams = new int[n];
        int[] best = null;
        do {
            if (isNumberedAsMet(teams) && isWithin(teams, k) && (best == null || isBetter(teams, best))) {
                best = teams.clone();
            }
        } while (toNextTeams(teams));
        return best;
    }

    /** The next row of numbers, each at most the number of its place. */
    private static boolean toNextTeams(int[] teams) {
        for (int i = teams.length - 1; i >= 0; i--) {
            if (teams[i] < i) {
                teams[i]++;
                return true;
            }
            teams[i] = 0;
        }
        return false;
    }

    private static boolean isNumberedAsMet(int[] teams) {
        int met = 0;
        for (int team : teams) {
            if (team > met) {
                return false;
            }
            met = Math.max(met, team + 1);
        }
        return true;
    }

    private static boolean isWithin(int[] teams, int k) {
        int[] sizes = new int[8];
        for (int team : teams) {
            sizes[team]++;
            if (sizes[team] > k) {
                return false;
            }
        }
        return true;
    }

    private boolean isBetter(int[] teams, int[] best) {
        int less = cut(teams) - cut(best);
        return less < 0 || less == 0 && howMany(teams) < howMany(best);
    }

    private static int howMany(int[] teams) {
        int most = -1;
        for (int team : teams) {
            most = Math.max(most, team);
        }
        return most + 1;
    }

    private int cut(int[] teams) {
        int cut = 0;
        for (int a = 0; a < teams.length; a++) {
            for (int b = 0; b < teams.length; b++) {
                cut += teams[a] != teams[b] ? needs[a][b] : 0;
            }
        }
        return cut;
    }

    private Ratio strongest(int from, int to, int met) {
        if (from == to) {
            return Ratio.of(1, 1);
        }
        Ratio best = Ratio.of(0, 1);
        for (int next = 0; next < times.size(); next++) {
            if ((met & 1 << next) == 0 && needs[next][from] > 0) {
                Ratio rest = strongest(next, to, met | 1 << next);
                Ratio way = rest.times(Ratio.of(needs[next][from], 10));
                best = way.compareTo(best) > 0 ? way : best;
            }
        }
        return best;
    }

    /** A fraction in least terms. */
    private record Ratio(BigInteger above, BigInteger below) {
        static Ratio of(long above, long below) {
            return least(BigInteger.valueOf(above), BigInteger.valueOf(below));
        }

        static Ratio least(BigInteger above, BigInteger below) {
            BigInteger divisor = above.gcd(below).multiply(BigInteger.valueOf(below.signum()));
            return new Ratio(above.divide(divisor), below.divide(divisor));
        }

        Ratio plus(Ratio other) {
            return least(above.multiply(other.below).add(other.above.multiply(below)), below.multiply(other.below));
        }

        Ratio minus(Ratio other) {
            return plus(new Ratio(other.above.negate(), other.below));
        }

        Ratio times(Ratio other) {
            return least(above.multiply(other.above), below.multiply(other.below));
        }

        Ratio by(Ratio other) {
            return least(above.multiply(other.below), below.multiply(other.above));
        }

        boolean isZero() {
            return above.signum() == 0;
        }

        int compareTo(Ratio other) {
            return above.multiply(other.below).compareTo(other.above.multiply(below));
        }

        long part(boolean upper) {
            return (upper ? above : below).longValueExact();
        }
    }
}
