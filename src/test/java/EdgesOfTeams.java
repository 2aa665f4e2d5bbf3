/** Promises 22 to 26: teams, changes, totals. */
final class EdgesOfTeams extends Edges {
    EdgesOfTeams(Sentences sentences) {
        super(sentences);
    }

    void all() {
        between();
        team();
        force();
        reach();
        reachBounds();
        total();
    }

    private void between() {
        under("Promise 22: between");
        String words = "BETWEEN of the BEST TEAMS of k at most.";
        test(words, "without tasks and of one", () -> {
            for (int k = 1; k <= 8; k++) {
                due("between(" + k + ") without tasks", new DesignTurns().between(k), 0);
                due("between(" + k + ") of one", bare(1, 1).between(k), 0);
            }
        });
        test(words, "without needs", () -> {
            for (int k = 1; k <= 8; k++) {
                due("between(" + k + ")", bare(8, 1).between(k), 0);
            }
        });
        test(words, "all need all, from teams of one to one team", () -> {
            int[] want = {504, 432, 378, 288, 270, 216, 126, 0};
            for (int k = 1; k <= 8; k++) {
                due("between(" + k + ")", web(8, 1, 9).between(k), want[k - 1]);
            }
        });
        test(words, "k above the number of tasks", () -> {
            for (int k = 2; k <= 8; k++) {
                due("between(" + k + ")", web(2, 1, 9).between(k), 0);
            }
            due("between(1)", web(2, 1, 9).between(1), 18);
        });
        test(words, "k one less than the number of tasks", () -> {
            due("between(2) of a chain of three", chain(3, 1, 9).between(2), 9);
            due("between(7) of a chain of eight", chain(8, 1, 9).between(7), 9);
        });
        test("BAD.", "less than 1, more than 8", () -> bad("between", SIZES, 1, 8, (x, k) -> x.between(k)));
    }

    private void team() {
        under("Promise 23: team");
        String words = "The TEAM of a TASK in them.";
        test(words, "one task", () -> {
            for (int k = 1; k <= 8; k++) {
                due("team(" + k + ", 0)", bare(1, 1).team(k, 0), 0);
            }
        });
        test(words, "teams of one, one team", () -> {
            for (int task = 0; task < MOST; task++) {
                due("team(1, " + task + ")", web(8, 1, 9).team(1, task), task);
                due("team(8, " + task + ")", web(8, 1, 9).team(8, task), 0);
                due("team(1, " + task + ") without needs", bare(8, 1).team(1, task), task);
                due("team(8, " + task + ") without needs", bare(8, 1).team(8, task), 0);
            }
        });
        test(words, "teams of seven", () -> {
            for (int task = 0; task < MOST; task++) {
                due("team(7, " + task + ")", web(8, 1, 9).team(7, task), task == 7 ? 1 : 0);
                due("team(7, " + task + ") without needs", bare(8, 1).team(7, task), task == 7 ? 1 : 0);
            }
        });
        test(words, "nothing changes", () -> {
            for (int count : SIZES_NOT_NONE) {
                long want = rich(count).team(3, count - 1);
                changesNothing("team(3, last)", count, x -> x.team(3, count - 1), want);
            }
        });
        test("UNKNOWN;", "no such task", () -> {
            unknown("team(1, task)", (x, task) -> x.team(1, task));
            unknown("team(8, task)", (x, task) -> x.team(8, task));
        });
        test("BAD.", "less than 1, more than 8", () -> {
            bad("team(k, 0)", SIZES_NOT_NONE, 1, 8, (x, k) -> x.team(k, 0));
            bad("team(k, last)", SIZES_NOT_NONE, 1, 8, (x, k) -> x.team(k, x.total(0) - 1));
        });
    }

    private void force() {
        under("Promise 24: force");
        String words = "The FORCE from TASK a to TASK b, above (upper), below.";
        test(words, "each strength, in least terms", () -> {
            long[] above = {1, 1, 3, 2, 1, 3, 7, 4, 9};
            long[] below = {10, 5, 10, 5, 2, 5, 10, 5, 10};
            for (int strength = 1; strength <= 9; strength++) {
                dueForce(chainBack(2, 1, strength), 0, 1, above[strength - 1], below[strength - 1]);
            }
        });
        test(words, "the longest way", () -> {
            dueForce(chainBack(8, 1, 9), 0, 7, 4782969, 10000000);
            dueForce(chainBack(8, 1, 1), 0, 7, 1, 10000000);
            dueForce(chain(8, 1, 9), 7, 0, 4782969, 10000000);
            dueForce(chainBack(8, 1, 5), 0, 7, 1, 128);
        });
        test(words, "against the needs there is none", () -> {
            dueForce(chainBack(8, 1, 9), 7, 0, 0, 1);
            dueForce(chain(8, 1, 9), 0, 7, 0, 1);
        });
        test("UNKNOWN.", "no such task, above", () -> unknownEither("force", (x, a, b) -> x.force(a, b, true)));
        test("UNKNOWN.", "no such task, below", () -> unknownEither("force", (x, a, b) -> x.force(a, b, false)));
    }

    private void dueForce(DesignTurns x, int a, int b, long above, long below) {
        dueFraction("force(" + a + ", " + b + ")", x.force(a, b, true), x.force(a, b, false), above, below);
    }

    private void reach() {
        under("Promise 25: reach");
        String words = "To how many other TASKS a CHANGE of a TASK comes with a FORCE of so many thousandths at least";
        test(words, "just so many, one more", () -> {
            for (int strength = 1; strength <= 9; strength++) {
                DesignTurns x = chainBack(2, 1, strength);
                due("reach(0, " + 100 * strength + ")", x.reach(0, 100 * strength), 1);
                due("reach(0, " + (100 * strength + 1) + ")", x.reach(0, 100 * strength + 1), 0);
            }
        });
        test(words, "just a thousandth, and less", () -> {
            DesignTurns x = chainBack(5, 1, 1);
            due("reach(0, 1)", x.reach(0, 1), 3);
            due("reach(0, 2)", x.reach(0, 2), 2);
            x.need(4, 3, 9);
            due("reach(0, 1), nine ten-thousandths more", x.reach(0, 1), 3);
        });
        test(words, "between two thousandths", () -> {
            DesignTurns x = chainBack(8, 1, 9);
            due("reach(0, 478), by 0.4782969", x.reach(0, 478), 7);
            due("reach(0, 479)", x.reach(0, 479), 6);
            due("reach(0, 656), by 0.6561", x.reach(0, 656), 4);
            due("reach(0, 657)", x.reach(0, 657), 3);
            due("reach(0, 729), by 0.729", x.reach(0, 729), 3);
            due("reach(0, 730)", x.reach(0, 730), 2);
        });
        test(words, "itself is no other one", () -> {
            for (int count : SIZES_NOT_NONE) {
                due("reach(last, 1) without needs", bare(count, 1).reach(count - 1, 1), 0);
                due("reach(last, 1000)", web(count, 1, 9).reach(count - 1, 1000), 0);
                due("reach(last, 900)", web(count, 1, 9).reach(count - 1, 900), count - 1);
                due("reach(last, 901)", web(count, 1, 9).reach(count - 1, 901), 0);
            }
        });
        test(words, "to those that need it, not to those that it needs", () -> {
            due("reach(0, 1)", chain(8, 1, 9).reach(0, 1), 0);
            due("reach(7, 1)", chain(8, 1, 9).reach(7, 1), 7);
        });
    }

    private void reachBounds() {
        test("(1 .. 1000)", "1 and 1000 are taken", () -> {
            due("reach(0, 1)", bare(1, 1).reach(0, 1), 0);
            due("reach(0, 1000)", bare(1, 1).reach(0, 1000), 0);
            due("reach(7, 1)", web(8, 1, 1).reach(7, 1), 7);
            due("reach(7, 1000)", web(8, 1, 9).reach(7, 1000), 0);
        });
        test("UNKNOWN;", "no such task", () -> {
            unknown("reach(task, 1)", (x, task) -> x.reach(task, 1));
            unknown("reach(task, 1000)", (x, task) -> x.reach(task, 1000));
        });
        test("BAD.", "less than 1, more than 1000", () -> {
            bad("reach(0, n)", SIZES_NOT_NONE, 1, 1000, (x, n) -> x.reach(0, n));
            bad("reach(last, n)", SIZES_NOT_NONE, 1, 1000, (x, n) -> x.reach(x.total(0) - 1, n));
        });
    }

    private void total() {
        under("Promise 26: total");
        String words = "0 TASKS, 1 NEEDS, 2 all STRENGTHS, 3 CHANCES that are not 0, 4 all TIMES.";
        test(words, "without tasks", () -> dueTotals(new DesignTurns(), 0, 0, 0, 0, 0));
        test(words, "the least and the most of one", () -> {
            dueTotals(bare(1, 1), 1, 0, 0, 0, 1);
            dueTotals(bare(1, 20), 1, 0, 0, 0, 20);
        });
        test(words, "the most", () -> {
            DesignTurns x = web(8, 20, 9);
            for (int a = 0; a < MOST; a++) {
                for (int b = 0; b < MOST; b++) {
                    x.chance(a, b, 1);
                }
            }
            dueTotals(x, 8, 56, 504, 56, 160);
        });
        test(words, "what is 0 does not count", () -> {
            DesignTurns x = chain(3, 1, 9);
            x.chance(0, 1, 8);
            x.chance(2, 1, 1);
            dueTotals(x, 3, 2, 18, 2, 3);
            x.need(0, 1, 0);
            x.chance(0, 1, 0);
            dueTotals(x, 3, 1, 9, 1, 3);
        });
        test(words, "chances are counted, not summed", () -> {
            DesignTurns x = bare(2, 1);
            x.chance(0, 1, 8);
            dueTotals(x, 2, 0, 0, 1, 2);
        });
        test("BAD.", "less than 0, more than 4", () -> bad("total", SIZES, 0, 4, (x, what) -> x.total(what)));
    }

    private void dueTotals(DesignTurns x, int... want) {
        for (int what = 0; what < want.length; what++) {
            due("total(" + what + ")", x.total(what), want[what]);
        }
    }
}
