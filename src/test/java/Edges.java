import java.util.ArrayList;
import java.util.List;
import java.util.stream.IntStream;

/** What tests of edges use: objects of each size, and calls on one of two like objects. */
abstract class Edges {
    static final int UNKNOWN = -1, BAD = -2, STATE = -3, FULL = -4, NONE = -9;
    static final int HIGH = Integer.MAX_VALUE, LOW = Integer.MIN_VALUE;
    static final int MOST = 8;
    static final int[] SIZES = {0, 1, 2, 5, 7, 8};
    static final int[] SIZES_NOT_NONE = {1, 2, 5, 7, 8};
    static final int[] SIZES_OF_PAIRS = {2, 5, 7, 8};
    static final int[] SIZES_NOT_MOST = {0, 1, 2, 5, 7};

    private final Sentences sentences;

    Edges(Sentences sentences) {
        this.sentences = sentences;
    }

    interface Call {
        long on(DesignTurns x);
    }

    interface CallOfOne {
        long on(DesignTurns x, int number);
    }

    interface CallOfTwo {
        long on(DesignTurns x, int a, int b);
    }

    void under(String heading) {
        sentences.under(heading);
    }

    void test(String words, String edge, Runnable test) {
        sentences.test(words, edge, test);
    }

    void due(String call, long got, long want) {
        sentences.checks().due(call, got, want);
    }

    void dueFraction(String call, long above, long below, long wantAbove, long wantBelow) {
        due(call + " above", above, wantAbove);
        due(call + " below", below, wantBelow);
    }

    static DesignTurns tasks(int... times) {
        DesignTurns x = new DesignTurns();
        for (int time : times) {
            x.task(time);
        }
        return x;
    }

    /** Tasks that have all the same time, and no needs. */
    static DesignTurns bare(int count, int time) {
        DesignTurns x = new DesignTurns();
        for (int task = 0; task < count; task++) {
            x.task(time);
        }
        return x;
    }

    /** Each task needs the next one. */
    static DesignTurns chain(int count, int time, int strength) {
        DesignTurns x = bare(count, time);
        for (int task = 0; task + 1 < count; task++) {
            x.need(task, task + 1, strength);
        }
        return x;
    }

    /** Each task needs the one ahead of it. */
    static DesignTurns chainBack(int count, int time, int strength) {
        DesignTurns x = bare(count, time);
        for (int task = 1; task < count; task++) {
            x.need(task, task - 1, strength);
        }
        return x;
    }

    /** Each task needs each other one. */
    static DesignTurns web(int count, int time, int strength) {
        DesignTurns x = bare(count, time);
        for (int a = 0; a < count; a++) {
            for (int b = 0; b < count; b++) {
                if (a != b) {
                    x.need(a, b, strength);
                }
            }
        }
        return x;
    }

    /** Tasks of which no two are alike, with needs, chances (7 in 10 at most) and another told order. */
    static DesignTurns rich(int count) {
        DesignTurns x = new DesignTurns();
        for (int task = 0; task < count; task++) {
            x.task(1 + task * 7 % 20);
        }
        for (int a = 0; a < count; a++) {
            for (int b = 0; b < count; b++) {
                if (a != b) {
                    x.need(a, b, (a * 3 + b * 5 + 1) % 10);
                }
            }
            x.chance(a, (a + 1) % count, 5);
            x.chance(a, (a + 2) % count, count > 2 ? 2 : 5);
        }
        x.swap(0, count - 1);
        x.swap(1, count - 1);
        return x;
    }

    /** No number of a task or a place: the next on either side, and such as wrap round. */
    static int[] outside(int count) {
        return IntStream.of(-1, -2, -8, count, count + 1, 8, 9, 16, 32, 33, 64, 256, 1 << 29, HIGH, LOW, LOW + 1)
                .distinct().toArray();
    }

    /** What is no value between the first and the last one: the next on either side, and such as wrap round. */
    static int[] outside(int first, int last) {
        return IntStream.of(first - 1, last + 1, -last, first + 256, first + 65536, last + 65536,
                        1 << 29, HIGH, HIGH - 7, LOW, LOW + 1)
                .filter(value -> value < first || value > last).distinct().toArray();
    }

    /** All that an object tells; what it tells only by a change comes last. */
    static List<Long> look(DesignTurns x) {
        List<Long> told = new ArrayList<>();
        for (int what = 0; what <= 4; what++) {
            told.add((long) x.total(what));
        }
        int count = x.total(0);
        for (int a = 0; a < count; a++) {
            told.add((long) x.at(a));
            told.add((long) x.ends(a));
            told.add((long) x.block(a));
            for (int b = 0; b < count; b++) {
                told.add((long) x.strength(a, b));
            }
        }
        told.add((long) x.guess());
        told.add((long) x.least());
        told.add((long) x.between(2));
        told.add(x.mean(true));
        told.add(x.mean(false));
        for (int a = 0; a < count; a++) {
            told.add((long) x.time(a, 1));
            for (int b = 0; b < count; b++) {
                told.add((long) x.chance(a, b, 0));
            }
        }
        told.add((long) x.task(1));
        return told;
    }

    /** The call answers so, and the object tells afterwards what one tells on which it was not called. */
    void changesNothing(String told, int count, Call call, long want) {
        DesignTurns called = rich(count);
        String name = told + ", " + count + " tasks";
        due(name, call.on(called), want);
        sentences.checks().dueTrue(name + " has changed something", look(called).equals(look(rich(count))));
    }

    void isTaken(String told, int count, Call call) {
        long got = call.on(rich(count));
        sentences.checks().dueTrue(told + ", " + count + " tasks, answered " + got, got >= 0);
    }

    /** For each number that is no task's UNKNOWN is told; the first and the last task are taken. */
    void unknown(String told, CallOfOne call) {
        for (int count : SIZES) {
            for (int task : outside(count)) {
                changesNothing(told + " of " + task, count, x -> call.on(x, task), UNKNOWN);
            }
        }
        for (int count : SIZES_NOT_NONE) {
            isTaken(told + " of the first", count, x -> call.on(x, 0));
            isTaken(told + " of the last", count, x -> call.on(x, count - 1));
        }
    }

    /** UNKNOWN is told if either number is no task's; the first and the last task are taken. */
    void unknownEither(String told, CallOfTwo call) {
        for (int count : SIZES) {
            for (int task : outside(count)) {
                changesNothing(told + " of " + task + " twice", count, x -> call.on(x, task, task), UNKNOWN);
                for (int known = 0; known < count; known += Math.max(1, count - 1)) {
                    int other = known;
                    changesNothing(told + " of " + task + " and " + other, count,
                            x -> call.on(x, task, other), UNKNOWN);
                    changesNothing(told + " of " + other + " and " + task, count,
                            x -> call.on(x, other, task), UNKNOWN);
                }
            }
        }
        for (int count : SIZES_OF_PAIRS) {
            isTaken(told + " of the first and the last", count, x -> call.on(x, 0, count - 1));
            isTaken(told + " of the last and the first", count, x -> call.on(x, count - 1, 0));
        }
    }

    /** BAD is told on either side of the first and the last value; these two are taken. */
    void bad(String told, int[] sizes, int first, int last, CallOfOne call) {
        for (int count : sizes) {
            for (int value : outside(first, last)) {
                changesNothing(told + " by " + value, count, x -> call.on(x, value), BAD);
            }
            isTaken(told + " by " + first, count, x -> call.on(x, first));
            isTaken(told + " by " + last, count, x -> call.on(x, last));
        }
    }
}
