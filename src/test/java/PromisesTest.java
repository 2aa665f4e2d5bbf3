/** For each promise: ordinary inputs, the edges that the document names, and wrong inputs. */
public final class PromisesTest {
    private static final int UNKNOWN = -1, BAD = -2, STATE = -3, FULL = -4, NONE = -9;
    private static final int HIGH = Integer.MAX_VALUE, LOW = Integer.MIN_VALUE;

    private static final Checks checks = new Checks();

    public static void main(String[] args) {
        constants();
        newObject();
        task();
        time();
        need();
        strength();
        leans();
        blocks();
        blocksNumbered();
        least();
        leastAt();
        saved();
        at();
        swap();
        take();
        guess();
        torn();
        chance();
        mean();
        meanLargest();
        often();
        ends();
        span();
        between();
        team();
        teamTies();
        force();
        reach();
        total();
        refusalsChangeNothing();
        checks.end();
    }

    private static DesignTurns tasks(int... times) {
        DesignTurns x = new DesignTurns();
        for (int time : times) {
            x.task(time);
        }
        return x;
    }

    /** A ring 0 needs 1 needs 2 needs 0, and 3 behind it. */
    private static DesignTurns ring() {
        DesignTurns x = tasks(5, 3, 8, 2);
        x.need(0, 1, 4);
        x.need(1, 2, 5);
        x.need(2, 0, 3);
        x.need(3, 0, 9);
        return x;
    }

    private static void constants() {
        checks.promise("the face");
        checks.due("UNKNOWN", DesignTurns.UNKNOWN, -1);
        checks.due("BAD", DesignTurns.BAD, -2);
        checks.due("STATE", DesignTurns.STATE, -3);
        checks.due("FULL", DesignTurns.FULL, -4);
        checks.due("NONE", DesignTurns.NONE, -9);
    }

    private static void newObject() {
        checks.promise("promise 1, a new object");
        DesignTurns x = new DesignTurns();
        for (int what = 0; what <= 4; what++) {
            checks.due("total(" + what + ")", x.total(what), 0);
        }
        checks.due("blocks()", x.blocks(), 0);
        checks.due("least()", x.least(), 0);
        checks.due("guess()", x.guess(), 0);
        checks.due("take()", x.take(), 0);
        checks.due("span()", x.span(), 0);
        checks.due("at(0)", x.at(0), NONE);
        checks.due("leastAt(0)", x.leastAt(0), NONE);
        checks.due("mean(true)", x.mean(true), 0);
        checks.due("mean(false)", x.mean(false), 1);
        checks.due("between(1)", x.between(1), 0);
        checks.due("between(8)", x.between(8), 0);
        checks.due("block(0)", x.block(0), UNKNOWN);
        checks.due("swap(0, 0)", x.swap(0, 0), BAD);
    }

    private static void task() {
        checks.promise("promise 2, task");
        DesignTurns x = new DesignTurns();
        checks.due("task(0)", x.task(0), BAD);
        checks.due("task(21)", x.task(21), BAD);
        checks.due("task(-1)", x.task(-1), BAD);
        checks.due("task(LOW)", x.task(LOW), BAD);
        checks.due("task(HIGH)", x.task(HIGH), BAD);
        checks.due("total(0)", x.total(0), 0);
        checks.due("task(1)", x.task(1), 0);
        checks.due("task(20)", x.task(20), 1);
        for (int number = 2; number < 8; number++) {
            checks.due("task(7)", x.task(7), number);
        }
        checks.due("task(7), a ninth", x.task(7), FULL);
        checks.due("task(0), a ninth", x.task(0), BAD);
        checks.due("task(21), a ninth", x.task(21), BAD);
        checks.due("total(0)", x.total(0), 8);
        checks.due("total(4)", x.total(4), 1 + 20 + 6 * 7);
        DesignTurns y = tasks(1, 2, 3);
        y.swap(0, 2);
        y.task(4);
        for (int place = 0; place < 4; place++) {
            checks.due("at(" + place + ") when a task has come", y.at(place), place);
        }
    }

    private static void time() {
        checks.promise("promise 3, time");
        DesignTurns x = tasks(4, 6);
        checks.due("time(0, 20)", x.time(0, 20), 4);
        checks.due("time(0, 1)", x.time(0, 1), 20);
        checks.due("time(1, 5)", x.time(1, 5), 6);
        checks.due("total(4)", x.total(4), 6);
        checks.due("time(0, 0)", x.time(0, 0), BAD);
        checks.due("time(0, 21)", x.time(0, 21), BAD);
        checks.due("time(0, HIGH)", x.time(0, HIGH), BAD);
        checks.due("time(2, 5)", x.time(2, 5), UNKNOWN);
        checks.due("time(-1, 5)", x.time(-1, 5), UNKNOWN);
        checks.due("time(2, 0)", x.time(2, 0), UNKNOWN);
        checks.due("time(HIGH, 5)", x.time(HIGH, 5), UNKNOWN);
        checks.due("time(LOW, 5)", x.time(LOW, 5), UNKNOWN);
        checks.due("time(0, 1)", x.time(0, 1), 1);
        checks.due("span()", x.span(), 5);
        x.swap(0, 1);
        x.time(0, 9);
        checks.due("at(0), when a time was changed", x.at(0), 1);
    }

    private static void need() {
        checks.promise("promise 4, need");
        DesignTurns x = tasks(1, 1, 1);
        checks.due("need(0, 1, 9)", x.need(0, 1, 9), 0);
        checks.due("need(0, 1, 1)", x.need(0, 1, 1), 9);
        checks.due("need(1, 0, 3)", x.need(1, 0, 3), 0);
        checks.due("need(0, 1, 0)", x.need(0, 1, 0), 1);
        checks.due("need(0, 1, 0)", x.need(0, 1, 0), 0);
        checks.due("total(1)", x.total(1), 1);
        checks.due("need(0, 1, 10)", x.need(0, 1, 10), BAD);
        checks.due("need(0, 1, -1)", x.need(0, 1, -1), BAD);
        checks.due("need(0, 1, LOW)", x.need(0, 1, LOW), BAD);
        checks.due("need(1, 1, 3)", x.need(1, 1, 3), STATE);
        checks.due("need(1, 1, 0)", x.need(1, 1, 0), STATE);
        checks.due("need(1, 1, 10)", x.need(1, 1, 10), BAD);
        checks.due("need(3, 1, 3)", x.need(3, 1, 3), UNKNOWN);
        checks.due("need(1, 3, 3)", x.need(1, 3, 3), UNKNOWN);
        checks.due("need(-1, 1, 3)", x.need(-1, 1, 3), UNKNOWN);
        checks.due("need(1, -1, 3)", x.need(1, -1, 3), UNKNOWN);
        checks.due("need(3, 3, 10)", x.need(3, 3, 10), UNKNOWN);
        checks.due("need(HIGH, LOW, 3)", x.need(HIGH, LOW, 3), UNKNOWN);
        checks.due("strength(1, 0)", x.strength(1, 0), 3);
        checks.due("total(2)", x.total(2), 3);
    }

    private static void strength() {
        checks.promise("promise 5, strength");
        DesignTurns x = ring();
        checks.due("strength(0, 1)", x.strength(0, 1), 4);
        checks.due("strength(1, 0)", x.strength(1, 0), 0);
        checks.due("strength(3, 0)", x.strength(3, 0), 9);
        checks.due("strength(2, 2)", x.strength(2, 2), 0);
        checks.due("strength(0, 4)", x.strength(0, 4), UNKNOWN);
        checks.due("strength(4, 0)", x.strength(4, 0), UNKNOWN);
        checks.due("strength(-1, 0)", x.strength(-1, 0), UNKNOWN);
        checks.due("strength(0, -1)", x.strength(0, -1), UNKNOWN);
        checks.due("strength(HIGH, HIGH)", x.strength(HIGH, HIGH), UNKNOWN);
    }

    private static void leans() {
        checks.promise("promise 6, leans");
        DesignTurns x = ring();
        checks.due("leans(0, 0)", x.leans(0, 0), 1);
        checks.due("leans(0, 2)", x.leans(0, 2), 1);
        checks.due("leans(2, 1)", x.leans(2, 1), 1);
        checks.due("leans(3, 2)", x.leans(3, 2), 1);
        checks.due("leans(2, 3)", x.leans(2, 3), 0);
        checks.due("leans(3, 3)", x.leans(3, 3), 0);
        checks.due("leans(4, 0)", x.leans(4, 0), UNKNOWN);
        checks.due("leans(0, 4)", x.leans(0, 4), UNKNOWN);
        checks.due("leans(-1, 0)", x.leans(-1, 0), UNKNOWN);
        checks.due("leans(0, LOW)", x.leans(0, LOW), UNKNOWN);
        x.need(1, 2, 0);
        checks.due("leans(0, 2), the ring undone", x.leans(0, 2), 0);
        checks.due("leans(2, 1), the ring undone", x.leans(2, 1), 1);
        checks.due("leans(0, 0), the ring undone", x.leans(0, 0), 0);
        DesignTurns chain = tasks(1, 1, 1, 1, 1, 1, 1, 1);
        int[] way = {3, 6, 0, 7, 2, 5, 1, 4};
        for (int i = 0; i + 1 < way.length; i++) {
            chain.need(way[i], way[i + 1], 1);
        }
        for (int i = 0; i < way.length; i++) {
            for (int j = 0; j < way.length; j++) {
                checks.due("leans along a chain", chain.leans(way[i], way[j]), i < j ? 1 : 0);
            }
        }
    }

    private static void blocks() {
        checks.promise("promise 7, blocks");
        DesignTurns x = ring();
        checks.due("blocks()", x.blocks(), 2);
        x.need(2, 0, 0);
        checks.due("blocks(), the ring undone", x.blocks(), 4);
        x.need(0, 3, 1);
        checks.due("blocks(), a ring of two", x.blocks(), 3);
        x.task(1);
        checks.due("blocks(), one task more", x.blocks(), 4);
        DesignTurns all = tasks(1, 1, 1, 1, 1, 1, 1, 1);
        checks.due("blocks(), no needs", all.blocks(), 8);
        for (int task = 0; task < 8; task++) {
            all.need(task, (task + 3) % 8, 1);
        }
        checks.due("blocks(), one ring", all.blocks(), 1);
    }

    private static void blocksNumbered() {
        checks.promise("promise 8, block");
        DesignTurns x = ring();
        checks.due("block(0)", x.block(0), 0);
        checks.due("block(2)", x.block(2), 0);
        checks.due("block(3)", x.block(3), 1);
        checks.due("block(4)", x.block(4), UNKNOWN);
        checks.due("block(-1)", x.block(-1), UNKNOWN);
        checks.due("block(HIGH)", x.block(HIGH), UNKNOWN);
        // 0 needs 4; 1 and 3 a ring that needs 5; 2 needs none: 2, 4, then 0, then 5, then the ring.
        DesignTurns y = tasks(1, 1, 1, 1, 1, 1);
        y.need(0, 4, 1);
        y.need(1, 3, 1);
        y.need(3, 1, 1);
        y.need(3, 5, 1);
        int[] want = {2, 4, 0, 4, 1, 3};
        for (int task = 0; task < want.length; task++) {
            checks.due("block(" + task + ")", y.block(task), want[task]);
        }
        DesignTurns z = tasks(1, 1, 1);
        z.need(0, 1, 1);
        z.need(1, 2, 1);
        checks.due("block(0) of a chain", z.block(0), 2);
        checks.due("block(1) of a chain", z.block(1), 1);
        checks.due("block(2) of a chain", z.block(2), 0);
    }

    private static void least() {
        checks.promise("promise 9, least");
        DesignTurns x = ring();
        checks.due("least()", x.least(), 3);
        x.need(2, 0, 9);
        checks.due("least(), a stronger need", x.least(), 4);
        x.need(0, 2, 9);
        checks.due("least(), a ring of two", x.least(), 9);
        DesignTurns all = tasks(1, 1, 1, 1, 1, 1, 1, 1);
        for (int a = 0; a < 8; a++) {
            for (int b = 0; b < 8; b++) {
                all.need(a, b, 9);
            }
        }
        checks.due("least(), all need all", all.least(), 28 * 9);
        checks.due("guess(), least() changes nothing", ring().guess(), 9);
    }

    private static void leastAt() {
        checks.promise("promise 10, leastAt");
        DesignTurns x = ring();
        int[] want = {2, 1, 0, 3};
        for (int place = 0; place < want.length; place++) {
            checks.due("leastAt(" + place + ")", x.leastAt(place), want[place]);
        }
        checks.due("leastAt(4)", x.leastAt(4), NONE);
        checks.due("leastAt(-1)", x.leastAt(-1), NONE);
        checks.due("leastAt(HIGH)", x.leastAt(HIGH), NONE);
        checks.due("leastAt(LOW)", x.leastAt(LOW), NONE);
        checks.due("at(0), leastAt changes nothing", x.at(0), 0);
        DesignTurns like = tasks(1, 1, 1, 1);
        like.need(0, 3, 2);
        like.need(3, 0, 2);
        like.need(1, 2, 1);
        int[] first = {0, 2, 1, 3};
        for (int place = 0; place < first.length; place++) {
            checks.due("leastAt(" + place + ") of like orders", like.leastAt(place), first[place]);
        }
    }

    private static void saved() {
        checks.promise("promise 11, saved");
        DesignTurns x = ring();
        checks.due("saved(2, 0)", x.saved(2, 0), 3);
        checks.due("saved(0, 1)", x.saved(0, 1), 3);
        checks.due("saved(3, 0)", x.saved(3, 0), 0);
        checks.due("saved(1, 0), no need", x.saved(1, 0), 0);
        checks.due("saved(1, 1)", x.saved(1, 1), 0);
        checks.due("saved(4, 0)", x.saved(4, 0), UNKNOWN);
        checks.due("saved(0, 4)", x.saved(0, 4), UNKNOWN);
        checks.due("saved(-1, -1)", x.saved(-1, -1), UNKNOWN);
        checks.due("strength(2, 0), nothing changes", x.strength(2, 0), 3);
        checks.due("least(), nothing changes", x.least(), 3);
        checks.due("total(1), nothing changes", x.total(1), 4);
        // Two rings through one need: it alone is torn, and without it another one is still torn.
        DesignTurns y = tasks(1, 1);
        y.need(0, 1, 7);
        y.need(1, 0, 5);
        checks.due("saved(0, 1) of a ring of two", y.saved(0, 1), 5);
        checks.due("saved(1, 0) of a ring of two", y.saved(1, 0), 5);
        DesignTurns z = tasks(1, 1, 1);
        z.need(0, 1, 6);
        z.need(1, 0, 6);
        z.need(1, 2, 4);
        z.need(2, 1, 1);
        checks.due("saved(0, 1) of two rings", z.saved(0, 1), 6);
        checks.due("saved(1, 2) of two rings", z.saved(1, 2), 1);
    }

    private static void at() {
        checks.promise("promise 12, at");
        DesignTurns x = ring();
        for (int place = 0; place < 4; place++) {
            checks.due("at(" + place + ")", x.at(place), place);
        }
        checks.due("at(4)", x.at(4), NONE);
        checks.due("at(-1)", x.at(-1), NONE);
        checks.due("at(HIGH)", x.at(HIGH), NONE);
        checks.due("at(LOW)", x.at(LOW), NONE);
        x.swap(1, 3);
        checks.due("at(1)", x.at(1), 3);
        checks.due("at(3)", x.at(3), 1);
    }

    private static void swap() {
        checks.promise("promise 13, swap");
        DesignTurns x = ring();
        checks.due("swap(0, 2)", x.swap(0, 2), 3);
        checks.due("at(0)", x.at(0), 2);
        checks.due("at(2)", x.at(2), 0);
        checks.due("swap(2, 3)", x.swap(2, 3), 12);
        checks.due("swap(1, 1)", x.swap(1, 1), 12);
        checks.due("swap(4, 0)", x.swap(4, 0), BAD);
        checks.due("swap(0, 4)", x.swap(0, 4), BAD);
        checks.due("swap(-1, 0)", x.swap(-1, 0), BAD);
        checks.due("swap(0, -1)", x.swap(0, -1), BAD);
        checks.due("swap(HIGH, LOW)", x.swap(HIGH, LOW), BAD);
        int[] want = {2, 1, 3, 0};
        for (int place = 0; place < want.length; place++) {
            checks.due("at(" + place + ")", x.at(place), want[place]);
        }
        // Places are exchanged, not tasks: place 0 holds 2 now.
        x.swap(0, 1);
        checks.due("at(0)", x.at(0), 1);
        checks.due("at(1)", x.at(1), 2);
    }

    private static void take() {
        checks.promise("promise 14, take");
        DesignTurns x = ring();
        checks.due("take()", x.take(), 3);
        int[] want = {2, 1, 0, 3};
        for (int place = 0; place < want.length; place++) {
            checks.due("at(" + place + ")", x.at(place), want[place]);
        }
        checks.due("guess()", x.guess(), 3);
        x.need(2, 0, 8);
        checks.due("guess(), the told order stays", x.guess(), 8);
        checks.due("take()", x.take(), 4);
        x.task(1);
        checks.due("at(0), a task has come", x.at(0), 0);
        checks.due("at(4), a task has come", x.at(4), 4);
    }

    private static void guess() {
        checks.promise("promise 15, guess");
        DesignTurns x = ring();
        checks.due("guess()", x.guess(), 9);
        x.swap(0, 3);
        checks.due("guess()", x.guess(), 17);
        x.need(3, 0, 0);
        checks.due("guess()", x.guess(), 8);
        checks.due("swap(1, 2)", x.swap(1, 2), 3);
        checks.due("guess()", x.guess(), 3);
    }

    private static void torn() {
        checks.promise("promise 16, torn");
        DesignTurns x = ring();
        checks.due("torn(0, 1)", x.torn(0, 1), 1);
        checks.due("torn(1, 2)", x.torn(1, 2), 1);
        checks.due("torn(2, 0)", x.torn(2, 0), 0);
        checks.due("torn(1, 0), no need", x.torn(1, 0), 0);
        checks.due("torn(0, 2), no need", x.torn(0, 2), 0);
        checks.due("torn(1, 1)", x.torn(1, 1), 0);
        checks.due("torn(4, 0)", x.torn(4, 0), UNKNOWN);
        checks.due("torn(0, 4)", x.torn(0, 4), UNKNOWN);
        checks.due("torn(-1, 0)", x.torn(-1, 0), UNKNOWN);
        x.take();
        checks.due("torn(0, 1), taken", x.torn(0, 1), 0);
        checks.due("torn(2, 0), taken", x.torn(2, 0), 1);
        x.need(2, 0, 1);
        checks.due("torn(2, 0), of strength 1", x.torn(2, 0), 1);
        x.need(2, 0, 0);
        checks.due("torn(2, 0), not needed any more", x.torn(2, 0), 0);
    }

    private static void chance() {
        checks.promise("promise 17, chance");
        DesignTurns x = tasks(1, 1, 1);
        checks.due("chance(0, 1, 8)", x.chance(0, 1, 8), 0);
        checks.due("chance(0, 2, 1), above 8", x.chance(0, 2, 1), STATE);
        checks.due("chance(0, 2, 0)", x.chance(0, 2, 0), 0);
        checks.due("chance(0, 1, 5)", x.chance(0, 1, 5), 8);
        checks.due("chance(0, 2, 3)", x.chance(0, 2, 3), 0);
        checks.due("chance(0, 2, 4), above 8", x.chance(0, 2, 4), STATE);
        checks.due("chance(0, 2, 3)", x.chance(0, 2, 3), 3);
        checks.due("chance(0, 1, 6), above 8", x.chance(0, 1, 6), STATE);
        checks.due("chance(1, 0, 8), of another one", x.chance(1, 0, 8), 0);
        checks.due("chance(1, 2, 1), above 8", x.chance(1, 2, 1), STATE);
        checks.due("total(3)", x.total(3), 3);
        checks.due("chance(0, 1, 0)", x.chance(0, 1, 0), 5);
        checks.due("chance(0, 2, 8)", x.chance(0, 2, 8), 3);
        checks.due("total(3)", x.total(3), 2);
        checks.due("chance(0, 1, 9)", x.chance(0, 1, 9), BAD);
        checks.due("chance(0, 1, -1)", x.chance(0, 1, -1), BAD);
        checks.due("chance(0, 1, HIGH)", x.chance(0, 1, HIGH), BAD);
        checks.due("chance(1, 1, 1)", x.chance(1, 1, 1), STATE);
        checks.due("chance(1, 1, 0)", x.chance(1, 1, 0), STATE);
        checks.due("chance(1, 1, 9)", x.chance(1, 1, 9), BAD);
        checks.due("chance(3, 1, 1)", x.chance(3, 1, 1), UNKNOWN);
        checks.due("chance(1, 3, 1)", x.chance(1, 3, 1), UNKNOWN);
        checks.due("chance(-1, -1, 9)", x.chance(-1, -1, 9), UNKNOWN);
        checks.due("strength(0, 2), a chance is no need", x.strength(0, 2), 0);
    }

    private static void mean() {
        checks.promise("promise 18, mean");
        DesignTurns x = tasks(10, 6, 1);
        checkFraction("the plain sum", x.mean(true), x.mean(false), 17, 1);
        x.chance(1, 0, 5);
        checkFraction("one goes back", x.mean(true), x.mean(false), 33, 1);
        x.chance(2, 0, 3);
        x.chance(2, 1, 5);
        checkFraction("two go back", x.mean(true), x.mean(false), 140, 1);
        x.chance(0, 2, 8);
        checkFraction("one behind counts for nothing", x.mean(true), x.mean(false), 140, 1);
        x.swap(0, 2);
        checkFraction("in the told order", x.mean(true), x.mean(false), 85, 1);
        DesignTurns y = tasks(1, 1);
        y.chance(1, 0, 1);
        checkFraction("a fraction", y.mean(true), y.mean(false), 20, 9);
        y.chance(1, 0, 3);
        checkFraction("a fraction", y.mean(true), y.mean(false), 20, 7);
        y.chance(1, 0, 4);
        checkFraction("in least terms", y.mean(true), y.mean(false), 10, 3);
        y.time(0, 20);
        y.time(1, 1);
        checkFraction("another time", y.mean(true), y.mean(false), 35, 1);
    }

    private static void meanLargest() {
        DesignTurns x = tasks(20, 20, 20, 20, 20, 20, 20, 20);
        for (int task = 1; task < 8; task++) {
            x.chance(task, 0, 8);
        }
        checkFraction("the largest", x.mean(true), x.mean(false), 3515600, 1);
        DesignTurns y = tasks(20, 20, 20, 20, 20, 20, 20, 19);
        for (int task = 1; task < 8; task++) {
            y.chance(task, 0, 1);
        }
        // Each place p > 0: (its time + 1/10 of what came ahead) by 9/10, with n the sum so far.
        java.math.BigInteger above = java.math.BigInteger.valueOf(20);
        long below = 1;
        for (int task = 1; task < 8; task++) {
            long time = task == 7 ? 19 : 20;
            above = above.multiply(java.math.BigInteger.TEN).add(java.math.BigInteger.valueOf(10 * time * below));
            below *= 9;
        }
        java.math.BigInteger gcd = above.gcd(java.math.BigInteger.valueOf(below));
        checkFraction("the finest", y.mean(true), y.mean(false),
                above.divide(gcd).longValueExact(), below / gcd.longValueExact());
    }

    private static void often() {
        checks.promise("promise 19, often");
        DesignTurns x = tasks(10, 6, 1);
        checkFraction("often 0", x.often(0, true), x.often(0, false), 1, 1);
        x.chance(1, 0, 5);
        x.chance(2, 0, 3);
        x.chance(2, 1, 5);
        checkFraction("often 0", x.often(0, true), x.often(0, false), 15, 2);
        checkFraction("often 1", x.often(1, true), x.often(1, false), 10, 1);
        checkFraction("often 2", x.often(2, true), x.often(2, false), 5, 1);
        x.chance(0, 2, 5);
        x.swap(0, 2);
        checkFraction("often 2, ahead", x.often(2, true), x.often(2, false), 2, 1);
        checkFraction("often 0, behind", x.often(0, true), x.often(0, false), 2, 1);
        x.time(0, 20);
        checkFraction("often 0, another time", x.often(0, true), x.often(0, false), 2, 1);
        checkFraction("often 3", x.often(3, true), x.often(3, false), UNKNOWN, UNKNOWN);
        checkFraction("often -1", x.often(-1, true), x.often(-1, false), UNKNOWN, UNKNOWN);
        checkFraction("often HIGH", x.often(HIGH, true), x.often(LOW, false), UNKNOWN, UNKNOWN);
        checks.due("mean(true)", x.mean(true), 2 * 1 + 2 * 6 + 2 * 20);
    }

    private static void checkFraction(String what, long above, long below, long wantAbove, long wantBelow) {
        checks.due(what + ", above", above, wantAbove);
        checks.due(what + ", below", below, wantBelow);
    }

    private static void ends() {
        checks.promise("promise 20, ends");
        DesignTurns x = ring();
        // In 0, 1, 2, 3 only what stands ahead holds back: 2 waits for 0, 3 waits for 0.
        checks.due("ends(0)", x.ends(0), 5);
        checks.due("ends(1)", x.ends(1), 3);
        checks.due("ends(2)", x.ends(2), 13);
        checks.due("ends(3)", x.ends(3), 7);
        x.take();
        checks.due("ends(2), taken", x.ends(2), 8);
        checks.due("ends(1), taken", x.ends(1), 11);
        checks.due("ends(0), taken", x.ends(0), 16);
        checks.due("ends(3), taken", x.ends(3), 18);
        x.need(3, 2, 1);
        checks.due("ends(3), the later one counts", x.ends(3), 18);
        x.need(3, 0, 0);
        checks.due("ends(3), the other one counts", x.ends(3), 10);
        checks.due("ends(4)", x.ends(4), UNKNOWN);
        checks.due("ends(-1)", x.ends(-1), UNKNOWN);
        checks.due("ends(HIGH)", x.ends(HIGH), UNKNOWN);
    }

    private static void span() {
        checks.promise("promise 21, span");
        DesignTurns x = ring();
        checks.due("span()", x.span(), 13);
        x.take();
        checks.due("span(), taken", x.span(), 18);
        x.swap(0, 3);
        checks.due("span(), swapped", x.span(), 16);
        x.time(1, 20);
        checks.due("span(), another time", x.span(), 33);
        x.need(2, 0, 0);
        x.need(1, 2, 0);
        x.need(0, 1, 0);
        x.need(3, 0, 0);
        checks.due("span(), no needs", x.span(), 20);
        DesignTurns chain = tasks(20, 20, 20, 20, 20, 20, 20, 20);
        for (int task = 1; task < 8; task++) {
            chain.need(task, task - 1, 1);
        }
        checks.due("span(), a chain", chain.span(), 160);
    }

    private static DesignTurns pairs() {
        DesignTurns x = tasks(1, 1, 1, 1, 1);
        x.need(0, 1, 9);
        x.need(2, 3, 9);
        x.need(1, 2, 1);
        x.need(4, 0, 2);
        x.need(4, 3, 2);
        return x;
    }

    private static void between() {
        checks.promise("promise 22, between");
        DesignTurns x = pairs();
        int[] want = {23, 5, 3, 3, 0, 0, 0, 0};
        for (int k = 1; k <= 8; k++) {
            checks.due("between(" + k + ")", x.between(k), want[k - 1]);
        }
        checks.due("between(0)", x.between(0), BAD);
        checks.due("between(9)", x.between(9), BAD);
        checks.due("between(-1)", x.between(-1), BAD);
        checks.due("between(HIGH)", x.between(HIGH), BAD);
        checks.due("between(LOW)", x.between(LOW), BAD);
        DesignTurns both = tasks(1, 1, 1);
        both.need(0, 1, 2);
        both.need(1, 0, 3);
        both.need(1, 2, 4);
        checks.due("between(2), both needs of two count", both.between(2), 4);
    }

    private static void team() {
        checks.promise("promise 23, team");
        DesignTurns x = pairs();
        checkTeams(x, 1, 0, 1, 2, 3, 4);
        checkTeams(x, 2, 0, 0, 1, 1, 2);
        checkTeams(x, 3, 0, 0, 1, 1, 0);
        checkTeams(x, 5, 0, 0, 0, 0, 0);
        checks.due("team(1, 5)", x.team(1, 5), UNKNOWN);
        checks.due("team(1, -1)", x.team(1, -1), UNKNOWN);
        checks.due("team(1, HIGH)", x.team(1, HIGH), UNKNOWN);
        checks.due("team(0, 0)", x.team(0, 0), BAD);
        checks.due("team(9, 0)", x.team(9, 0), BAD);
        checks.due("team(LOW, 0)", x.team(LOW, 0), BAD);
        checks.due("team(9, 5)", x.team(9, 5), UNKNOWN);
        checks.due("team(0, -1)", x.team(0, -1), UNKNOWN);
    }

    private static void teamTies() {
        DesignTurns none = tasks(1, 1, 1, 1, 1);
        checkTeams(none, 2, 0, 0, 1, 1, 2);
        checkTeams(none, 3, 0, 0, 0, 1, 1);
        checkTeams(none, 8, 0, 0, 0, 0, 0);
        // 0 with 3, 1 with 2: the fewest teams stand ahead of the lesser numbers.
        DesignTurns x = tasks(1, 1, 1, 1);
        x.need(0, 3, 1);
        checkTeams(x, 2, 0, 1, 1, 0);
        checkTeams(x, 3, 0, 0, 1, 0);
        // Of like ones with 0 and 3 together the first has 1, not 2, in team 0.
        x.task(1);
        checkTeams(x, 3, 0, 0, 1, 0, 1);
        checkTeams(x, 2, 0, 1, 1, 0, 2);
        // 0, 0, 1, 2, 2, 1 would have the lesser numbers, but three teams.
        DesignTurns y = tasks(1, 1, 1, 1, 1, 1);
        y.need(2, 5, 2);
        y.need(4, 3, 1);
        checkTeams(y, 3, 0, 1, 0, 1, 1, 0);
        // Two teams of three would be fewer, but there would be more between them.
        DesignTurns z = tasks(1, 1, 1, 1, 1, 1);
        z.need(0, 1, 9);
        z.need(3, 2, 9);
        z.need(4, 5, 9);
        checkTeams(z, 3, 0, 0, 1, 1, 2, 2);
    }

    private static void checkTeams(DesignTurns x, int k, int... want) {
        for (int task = 0; task < want.length; task++) {
            checks.due("team(" + k + ", " + task + ")", x.team(k, task), want[task]);
        }
    }

    private static void force() {
        checks.promise("promise 24, force");
        DesignTurns x = ring();
        checkForce(x, 2, 1, 1, 2);
        checkForce(x, 2, 0, 1, 5);
        checkForce(x, 2, 3, 9, 50);
        checkForce(x, 1, 2, 3, 25);
        checkForce(x, 3, 0, 0, 1);
        checkForce(x, 3, 3, 1, 1);
        checkForce(x, 0, 0, 1, 1);
        checkForce(x, 4, 0, UNKNOWN, UNKNOWN);
        checkForce(x, 0, 4, UNKNOWN, UNKNOWN);
        checkForce(x, -1, 0, UNKNOWN, UNKNOWN);
        checkForce(x, 0, LOW, UNKNOWN, UNKNOWN);
        // A long way may be stronger than a short one.
        x.need(3, 2, 1);
        checkForce(x, 2, 3, 9, 50);
        x.need(3, 2, 2);
        checkForce(x, 2, 3, 1, 5);
        DesignTurns chain = tasks(1, 1, 1, 1, 1, 1, 1, 1);
        for (int task = 1; task < 8; task++) {
            chain.need(task, task - 1, 9);
        }
        checkForce(chain, 0, 7, 4782969, 10000000);
        for (int task = 1; task < 8; task++) {
            chain.need(task, task - 1, 1);
        }
        checkForce(chain, 0, 7, 1, 10000000);
        checkForce(chain, 7, 0, 0, 1);
    }

    private static void checkForce(DesignTurns x, int a, int b, long above, long below) {
        String call = "force(" + a + ", " + b + ")";
        checkFraction(call, x.force(a, b, true), x.force(a, b, false), above, below);
    }

    private static void reach() {
        checks.promise("promise 25, reach");
        DesignTurns x = ring();
        checks.due("reach(2, 1)", x.reach(2, 1), 3);
        checks.due("reach(2, 180)", x.reach(2, 180), 3);
        checks.due("reach(2, 181)", x.reach(2, 181), 2);
        checks.due("reach(2, 200)", x.reach(2, 200), 2);
        checks.due("reach(2, 201)", x.reach(2, 201), 1);
        checks.due("reach(2, 500)", x.reach(2, 500), 1);
        checks.due("reach(2, 501)", x.reach(2, 501), 0);
        checks.due("reach(2, 1000)", x.reach(2, 1000), 0);
        checks.due("reach(3, 1)", x.reach(3, 1), 0);
        checks.due("reach(2, 0)", x.reach(2, 0), BAD);
        checks.due("reach(2, 1001)", x.reach(2, 1001), BAD);
        checks.due("reach(2, LOW)", x.reach(2, LOW), BAD);
        checks.due("reach(2, HIGH)", x.reach(2, HIGH), BAD);
        checks.due("reach(4, 1)", x.reach(4, 1), UNKNOWN);
        checks.due("reach(-1, 1)", x.reach(-1, 1), UNKNOWN);
        checks.due("reach(4, 0)", x.reach(4, 0), UNKNOWN);
        DesignTurns fine = tasks(1, 1, 1, 1, 1);
        fine.need(1, 0, 1);
        fine.need(2, 1, 1);
        fine.need(3, 2, 1);
        fine.need(4, 3, 9);
        checks.due("reach(0, 1), a thousandth", fine.reach(0, 1), 3);
        checks.due("reach(0, 2)", fine.reach(0, 2), 2);
    }

    private static void total() {
        checks.promise("promise 26, total");
        DesignTurns x = ring();
        x.chance(0, 1, 3);
        x.chance(2, 0, 8);
        x.need(1, 3, 2);
        x.need(1, 3, 0);
        int[] want = {4, 4, 21, 2, 18};
        for (int what = 0; what < want.length; what++) {
            checks.due("total(" + what + ")", x.total(what), want[what]);
        }
        checks.due("total(5)", x.total(5), BAD);
        checks.due("total(-1)", x.total(-1), BAD);
        checks.due("total(HIGH)", x.total(HIGH), BAD);
        checks.due("total(LOW)", x.total(LOW), BAD);
    }

    private static void refusalsChangeNothing() {
        checks.promise("what is refused changes nothing");
        DesignTurns x = ring();
        x.chance(0, 1, 8);
        x.swap(0, 3);
        x.task(0);
        x.time(0, 0);
        x.need(0, 0, 4);
        x.need(0, 1, 10);
        x.chance(0, 2, 1);
        x.chance(0, 1, 9);
        x.swap(0, 4);
        int[] want = {4, 4, 21, 1, 18};
        for (int what = 0; what < want.length; what++) {
            checks.due("total(" + what + ")", x.total(what), want[what]);
        }
        checks.due("at(0)", x.at(0), 3);
        checks.due("strength(0, 1)", x.strength(0, 1), 4);
        checks.due("chance(0, 1, 8)", x.chance(0, 1, 8), 8);
        DesignTurns full = tasks(1, 1, 1, 1, 1, 1, 1, 1);
        full.swap(0, 7);
        full.task(5);
        checks.due("at(0) when a ninth task was refused", full.at(0), 7);
        checks.due("total(4)", full.total(4), 8);
    }
}
