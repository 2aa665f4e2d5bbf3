/** Promises 1 to 8: tasks, needs. */
final class EdgesOfTasks extends Edges {
    EdgesOfTasks(Sentences sentences) {
        super(sentences);
    }

    void all() {
        newObject();
        task();
        time();
        need();
        needRefused();
        strength();
        leans();
        blocks();
        block();
    }

    private void newObject() {
        under("Promise 1: A new object");
        test("No TASKS.", "totals", () -> {
            for (int what = 0; what <= 4; what++) {
                due("total(" + what + ")", new DesignTurns().total(what), 0);
            }
        });
        test("No TASKS.", "the first number", () -> due("task(1)", new DesignTurns().task(1), 0));
        test("No TASKS.", "no task is known", () -> {
            DesignTurns x = new DesignTurns();
            due("time(0, 1)", x.time(0, 1), UNKNOWN);
            due("need(0, 1, 1)", x.need(0, 1, 1), UNKNOWN);
            due("chance(0, 1, 1)", x.chance(0, 1, 1), UNKNOWN);
            due("need(0, 0, 1)", x.need(0, 0, 1), UNKNOWN);
            due("chance(0, 0, 1)", x.chance(0, 0, 1), UNKNOWN);
        });
        test("No TASKS.", "two objects have nothing of one another", () -> {
            DesignTurns x = rich(8);
            DesignTurns y = new DesignTurns();
            due("total(0) of a second object", y.total(0), 0);
            due("task(3) of a second object", y.task(3), 0);
            due("total(4) of the first object", x.total(4), rich(8).total(4));
            due("at(0) of the first object", x.at(0), 7);
        });
    }

    private void task() {
        under("Promise 2: task");
        test("A TASK: its number.", "0 to 7", () -> {
            DesignTurns x = new DesignTurns();
            for (int number = 0; number < MOST; number++) {
                due("task(20)", x.task(20), number);
                due("total(0)", x.total(0), number + 1);
            }
        });
        test("A TASK: its number.", "each time from 1 to 20 is taken", () -> {
            for (int time = 1; time <= 20; time++) {
                DesignTurns x = new DesignTurns();
                due("task(" + time + ")", x.task(time), 0);
                due("total(4)", x.total(4), time);
            }
        });
        test("A TASK: its number.", "refused ones have no number", () -> {
            DesignTurns x = tasks(1, 1);
            x.task(0);
            x.task(21);
            due("task(1)", x.task(1), 2);
        });
        test("BAD;", "less than 1, more than 20",
                () -> bad("task", SIZES_NOT_MOST, 1, 20, (x, time) -> x.task(time)));
        test("FULL: 8.", "the eighth is taken", () -> {
            DesignTurns x = rich(7);
            due("task(20), the eighth", x.task(20), 7);
            due("total(0)", x.total(0), 8);
            due("time(7, 1)", x.time(7, 1), 20);
        });
        test("FULL: 8.", "a ninth is not", () -> {
            for (int time = 1; time <= 20; time++) {
                int late = time;
                changesNothing("task(" + time + "), a ninth", MOST, x -> x.task(late), FULL);
            }
        });
        test("FULL: 8.", "nor a tenth", () -> {
            DesignTurns x = bare(8, 1);
            due("task(1), a ninth", x.task(1), FULL);
            due("task(1), a tenth", x.task(1), FULL);
            due("total(0)", x.total(0), 8);
            due("total(4)", x.total(4), 8);
        });
    }

    private void time() {
        under("Promise 3: time");
        test("A TASK gets another TIME: what it was.", "first and last task and time", () -> {
            for (int count : SIZES_NOT_NONE) {
                DesignTurns x = bare(count, 7);
                int last = count - 1;
                due("time(last, 20)", x.time(last, 20), 7);
                due("time(last, 1)", x.time(last, 1), 20);
                due("time(last, 1)", x.time(last, 1), 1);
                due("total(4)", x.total(4), 7 * last + 1);
                due("time(0, 20)", x.time(0, 20), count == 1 ? 1 : 7);
            }
        });
        test("A TASK gets another TIME: what it was.", "the told order stays", () -> {
            DesignTurns x = bare(3, 1);
            x.swap(0, 2);
            x.time(0, 5);
            due("at(0)", x.at(0), 2);
        });
        test("UNKNOWN;", "no such task", () -> unknown("time", (x, task) -> x.time(task, 20)));
        test("BAD.", "less than 1, more than 20",
                () -> bad("time", SIZES_NOT_NONE, 1, 20, (x, time) -> x.time(0, time)));
        test("BAD.", "of the last task too",
                () -> bad("time", new int[] {8}, 1, 20, (x, time) -> x.time(7, time)));
    }

    private void need() {
        under("Promise 4: need");
        test("TASK a needs TASK b, of a STRENGTH", "each of eight needs each other one", () -> {
            DesignTurns x = web(8, 1, 9);
            due("total(1)", x.total(1), 56);
            due("total(2)", x.total(2), 504);
        });
        test("TASK a needs TASK b, of a STRENGTH", "a needs b, b does not need a", () -> {
            DesignTurns x = bare(8, 1);
            due("need(7, 0, 1)", x.need(7, 0, 1), 0);
            due("strength(7, 0)", x.strength(7, 0), 1);
            due("strength(0, 7)", x.strength(0, 7), 0);
            due("total(1)", x.total(1), 1);
        });
        test("0: not any more", "a need is taken out", () -> {
            DesignTurns x = chain(2, 1, 9);
            due("need(0, 1, 0)", x.need(0, 1, 0), 9);
            due("strength(0, 1)", x.strength(0, 1), 0);
            due("leans(0, 1)", x.leans(0, 1), 0);
            due("total(1)", x.total(1), 0);
            due("total(2)", x.total(2), 0);
        });
        test("0: not any more", "there was none", () -> {
            DesignTurns x = bare(2, 1);
            due("need(0, 1, 0)", x.need(0, 1, 0), 0);
            due("total(1)", x.total(1), 0);
        });
        test("which it had.", "each strength once", () -> {
            DesignTurns x = bare(2, 1);
            for (int strength = 1; strength <= 9; strength++) {
                due("need(1, 0, " + strength + ")", x.need(1, 0, strength), strength - 1);
                due("total(2)", x.total(2), strength);
            }
            due("need(1, 0, 9)", x.need(1, 0, 9), 9);
            due("need(1, 0, 0)", x.need(1, 0, 0), 9);
        });
        test("which it had.", "the told order stays", () -> {
            DesignTurns x = bare(3, 1);
            x.swap(0, 2);
            x.need(0, 2, 5);
            due("at(0)", x.at(0), 2);
        });
    }

    private void needRefused() {
        test("UNKNOWN;", "no such task", () -> unknownEither("need", (x, a, b) -> x.need(a, b, 9)));
        test("UNKNOWN;", "no such task, of strength 0", () -> unknownEither("need", (x, a, b) -> x.need(a, b, 0)));
        test("BAD;", "less than 0, more than 9",
                () -> bad("need", SIZES_OF_PAIRS, 0, 9, (x, strength) -> x.need(0, 1, strength)));
        test("BAD;", "of the last task too",
                () -> bad("need", SIZES_OF_PAIRS, 0, 9, (x, strength) -> x.need(x.total(0) - 1, 0, strength)));
        test("STATE: both are one.", "each task, each strength", () -> {
            for (int count : SIZES_NOT_NONE) {
                for (int strength = 0; strength <= 9; strength++) {
                    int given = strength;
                    for (int task = 0; task < count; task++) {
                        int one = task;
                        changesNothing("need(" + one + ", " + one + ", " + given + ")", count,
                                x -> x.need(one, one, given), STATE);
                    }
                }
            }
        });
    }

    private void strength() {
        under("Promise 5: strength");
        test("A NEED's STRENGTH", "1 and 9, of the first and of the last task", () -> {
            DesignTurns x = bare(8, 1);
            x.need(0, 7, 1);
            x.need(7, 0, 9);
            due("strength(0, 7)", x.strength(0, 7), 1);
            due("strength(7, 0)", x.strength(7, 0), 9);
        });
        test("0: there is none;", "without needs", () -> {
            for (int count : SIZES_OF_PAIRS) {
                DesignTurns x = bare(count, 20);
                due("strength(0, last)", x.strength(0, count - 1), 0);
                due("strength(last, 0)", x.strength(count - 1, 0), 0);
            }
        });
        test("0: there is none;", "a way of needs is no need", () -> {
            DesignTurns x = chain(3, 1, 9);
            due("strength(0, 2)", x.strength(0, 2), 0);
        });
        test("of a TASK of itself 0", "in a ring, too", () -> {
            for (int count : SIZES_NOT_NONE) {
                DesignTurns x = web(count, 1, 9);
                for (int task = 0; task < count; task++) {
                    x.need(task, task, 9);
                    due("strength(" + task + ", " + task + ")", x.strength(task, task), 0);
                }
            }
        });
        test("UNKNOWN.", "no such task", () -> unknownEither("strength", (x, a, b) -> x.strength(a, b)));
    }

    private void leans() {
        under("Promise 6: leans");
        test("Whether TASK a LEANS on TASK b: 1, 0.", "one task", () -> due("leans(0, 0)", bare(1, 1).leans(0, 0), 0));
        test("Whether TASK a LEANS on TASK b: 1, 0.", "without needs", () -> {
            for (int a = 0; a < MOST; a++) {
                for (int b = 0; b < MOST; b++) {
                    due("leans(" + a + ", " + b + ")", bare(8, 1).leans(a, b), 0);
                }
            }
        });
        test("Whether TASK a LEANS on TASK b: 1, 0.", "the longest chain", () -> {
            for (int a = 0; a < MOST; a++) {
                for (int b = 0; b < MOST; b++) {
                    due("leans(" + a + ", " + b + ")", chain(8, 1, 1).leans(a, b), a < b ? 1 : 0);
                    due("leans(" + a + ", " + b + ") back", chainBack(8, 1, 1).leans(a, b), a > b ? 1 : 0);
                }
            }
        });
        test("UNKNOWN.", "no such task", () -> unknownEither("leans", (x, a, b) -> x.leans(a, b)));
    }

    private void blocks() {
        under("Promise 7: blocks");
        test("How many BLOCKS there are.", "without tasks", () -> due("blocks()", new DesignTurns().blocks(), 0));
        test("How many BLOCKS there are.", "without needs", () -> {
            for (int count : SIZES) {
                due("blocks()", bare(count, 1).blocks(), count);
            }
        });
        test("How many BLOCKS there are.", "the longest ring, and one need too few for it", () -> {
            DesignTurns x = chain(8, 1, 1);
            due("blocks() of a chain", x.blocks(), 8);
            x.need(7, 0, 1);
            due("blocks() of a ring", x.blocks(), 1);
            x.need(3, 4, 0);
            due("blocks() of a ring undone", x.blocks(), 8);
        });
        test("How many BLOCKS there are.", "four rings of two", () -> {
            DesignTurns x = bare(8, 1);
            for (int task = 0; task < 4; task++) {
                x.need(task, 7 - task, 1);
                x.need(7 - task, task, 1);
            }
            due("blocks()", x.blocks(), 4);
        });
    }

    private void block() {
        under("Promise 8: block");
        test("The BLOCK of a TASK.", "one task", () -> due("block(0)", bare(1, 1).block(0), 0));
        test("The BLOCK of a TASK.", "without needs", () -> {
            for (int task = 0; task < MOST; task++) {
                due("block(" + task + ")", bare(8, 1).block(task), task);
            }
        });
        test("The BLOCK of a TASK.", "the longest chain", () -> {
            for (int task = 0; task < MOST; task++) {
                due("block(" + task + ")", chain(8, 1, 1).block(task), 7 - task);
                due("block(" + task + ") back", chainBack(8, 1, 1).block(task), task);
            }
        });
        test("The BLOCK of a TASK.", "one block of all", () -> {
            for (int task = 0; task < MOST; task++) {
                due("block(" + task + ")", web(8, 1, 1).block(task), 0);
            }
        });
        test("UNKNOWN.", "no such task", () -> unknown("block", (x, task) -> x.block(task)));
    }
}
