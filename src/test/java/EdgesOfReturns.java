/** Promises 17 to 21: going back, beside one another. */
final class EdgesOfReturns extends Edges {
    EdgesOfReturns(Sentences sentences) {
        super(sentences);
    }

    void all() {
        chance();
        chanceRefused();
        chanceAboveTogether();
        mean();
        often();
        ends();
        span();
    }

    private void chance() {
        under("Promise 17: chance");
        test("A CHANCE: what it was.", "each from 0 to 8", () -> {
            DesignTurns x = bare(2, 1);
            for (int tenths = 0; tenths <= 8; tenths++) {
                due("chance(1, 0, " + tenths + ")", x.chance(1, 0, tenths), Math.max(0, tenths - 1));
            }
            due("chance(1, 0, 8)", x.chance(1, 0, 8), 8);
            due("chance(1, 0, 0)", x.chance(1, 0, 0), 8);
            due("chance(1, 0, 0)", x.chance(1, 0, 0), 0);
        });
        test("A CHANCE: what it was.", "each way its own, of the first and of the last task", () -> {
            DesignTurns x = bare(8, 1);
            due("chance(0, 7, 8)", x.chance(0, 7, 8), 0);
            due("chance(7, 0, 1)", x.chance(7, 0, 1), 0);
            due("chance(0, 7, 0)", x.chance(0, 7, 0), 8);
            due("chance(7, 0, 0)", x.chance(7, 0, 0), 1);
        });
        test("A CHANCE: what it was.", "the told order stays, and the needs", () -> {
            DesignTurns x = bare(3, 1);
            x.swap(0, 2);
            x.chance(0, 2, 5);
            due("at(0)", x.at(0), 2);
            due("strength(0, 2)", x.strength(0, 2), 0);
        });
    }

    private void chanceRefused() {
        test("UNKNOWN;", "no such task", () -> unknownEither("chance", (x, a, b) -> x.chance(a, b, 1)));
        test("UNKNOWN;", "no such task, by 0", () -> unknownEither("chance", (x, a, b) -> x.chance(a, b, 0)));
        test("BAD: tenths;", "less than 0, more than 8",
                () -> bad("chance", new int[] {2}, 0, 8, (x, tenths) -> x.chance(0, 1, tenths)));
        test("BAD: tenths;", "of as many tasks as there may be", () -> {
            for (int count : SIZES_OF_PAIRS) {
                for (int tenths : outside(0, 8)) {
                    changesNothing("chance(0, last, " + tenths + ")", count, x -> x.chance(0, count - 1, tenths), BAD);
                    changesNothing("chance(last, 0, " + tenths + ")", count, x -> x.chance(count - 1, 0, tenths), BAD);
                }
            }
        });
        test("STATE: both are one,", "each task, each chance", () -> {
            for (int count : SIZES_NOT_NONE) {
                for (int tenths = 0; tenths <= 8; tenths++) {
                    int given = tenths;
                    for (int task = 0; task < count; task++) {
                        int one = task;
                        changesNothing("chance(" + one + ", " + one + ", " + given + ")", count,
                                x -> x.chance(one, one, given), STATE);
                    }
                }
            }
        });
    }

    private void chanceAboveTogether() {
        String words = "or those of a would be above 8 together.";
        test(words, "5, 2 and one more", () -> {
            for (int a = 0; a < MOST; a++) {
                int task = a;
                changesNothing("5, 2 and 2", MOST, x -> x.chance(task, (task + 3) % 8, 2), STATE);
                changesNothing("7 and 2", MOST, x -> x.chance(task, (task + 1) % 8, 7), STATE);
                changesNothing("5 and 4", MOST, x -> x.chance(task, (task + 2) % 8, 4), STATE);
                changesNothing("5, 2 and 8", MOST, x -> x.chance(task, (task + 7) % 8, 8), STATE);
                isTaken("5, 2 and 1", MOST, x -> x.chance(task, (task + 3) % 8, 1));
                isTaken("6 and 2", MOST, x -> x.chance(task, (task + 1) % 8, 6));
                isTaken("5 and 3", MOST, x -> x.chance(task, (task + 2) % 8, 3));
            }
        });
        test(words, "8 and then none but 0", () -> {
            DesignTurns x = bare(8, 1);
            due("chance(7, 0, 8)", x.chance(7, 0, 8), 0);
            for (int b = 1; b < 7; b++) {
                due("chance(7, b, 1)", x.chance(7, b, 1), STATE);
                due("chance(7, b, 0)", x.chance(7, b, 0), 0);
            }
            due("chance(7, 0, 8), the same again", x.chance(7, 0, 8), 8);
            due("chance(7, 0, 7)", x.chance(7, 0, 7), 8);
            due("chance(7, 1, 1)", x.chance(7, 1, 1), 0);
            due("chance(7, 2, 1)", x.chance(7, 2, 1), STATE);
        });
        test(words, "one for each other task", () -> {
            DesignTurns x = bare(8, 1);
            for (int b = 1; b < MOST; b++) {
                due("chance(0, " + b + ", 1)", x.chance(0, b, 1), 0);
            }
            due("chance(0, 7, 3)", x.chance(0, 7, 3), STATE);
            due("chance(0, 7, 2)", x.chance(0, 7, 2), 1);
            due("chance(0, 6, 2)", x.chance(0, 6, 2), STATE);
            due("total(3)", x.total(3), 7);
        });
        test(words, "those of others don't count", () -> {
            DesignTurns x = bare(8, 1);
            for (int a = 0; a < MOST; a++) {
                due("chance(" + a + ", next, 8)", x.chance(a, (a + 1) % 8, 8), 0);
            }
            DesignTurns y = bare(8, 1);
            for (int a = 0; a < 7; a++) {
                due("chance(" + a + ", 7, 8)", y.chance(a, 7, 8), 0);
            }
            due("chance(7, 0, 8)", y.chance(7, 0, 8), 0);
        });
        test(words, "those behind count here", () -> {
            DesignTurns x = bare(3, 1);
            due("chance(0, 2, 8)", x.chance(0, 2, 8), 0);
            due("chance(0, 1, 1)", x.chance(0, 1, 1), STATE);
        });
    }

    private void mean() {
        under("Promise 18: mean");
        String words = "THE MEAN in THE TOLD ORDER, above (upper), below.";
        test("(0 by 1 without TASKS.)", "a new object", () -> dueMean(new DesignTurns(), 0, 1));
        test("(0 by 1 without TASKS.)", "a task was refused", () -> {
            DesignTurns x = tasks(0, 21);
            dueMean(x, 0, 1);
        });
        test(words, "one task", () -> {
            dueMean(bare(1, 1), 1, 1);
            dueMean(bare(1, 20), 20, 1);
        });
        test(words, "without chances", () -> {
            for (int count : SIZES_NOT_NONE) {
                dueMean(bare(count, 20), 20 * count, 1);
            }
        });
        test(words, "the least and the most that two go back", () -> {
            DesignTurns x = bare(2, 9);
            x.chance(1, 0, 1);
            dueMean(x, 20, 1);
            x.chance(1, 0, 8);
            dueMean(x, 90, 1);
        });
        test(words, "the longest", () -> {
            DesignTurns x = bare(8, 20);
            for (int task = 1; task < MOST; task++) {
                x.chance(task, 0, 8);
            }
            dueMean(x, 3515600, 1);
        });
        test(words, "the greatest below", () -> {
            // With s for the sum so far each place adds (10 + s) by 9, seven times from s = 1.
            dueMean(allBackByOne(1), 62170310, 4782969);
            dueMean(allBackByOne(20), 1243406200, 4782969);
        });
        test(words, "only one place ahead, and 8 in two parts", () -> {
            DesignTurns x = bare(3, 1);
            x.chance(2, 1, 4);
            x.chance(2, 0, 4);
            // The last one is done 5 times, so one goes back to 1 twice and to 0 twice: 5 + 5 + 3.
            dueMean(x, 13, 1);
        });
    }

    private static DesignTurns allBackByOne(int time) {
        DesignTurns x = bare(8, time);
        for (int task = 1; task < MOST; task++) {
            x.chance(task, 0, 1);
        }
        return x;
    }

    private void dueMean(DesignTurns x, long above, long below) {
        dueFraction("mean", x.mean(true), x.mean(false), above, below);
    }

    private void often() {
        under("Promise 19: often");
        test("HOW OFTEN a TASK is done.", "without chances once", () -> {
            for (int count : SIZES_NOT_NONE) {
                DesignTurns x = bare(count, 20);
                for (int task = 0; task < count; task++) {
                    dueOften(x, task, 1, 1);
                }
            }
        });
        test("HOW OFTEN a TASK is done.", "the most", () -> {
            DesignTurns x = bare(8, 20);
            for (int task = 1; task < MOST; task++) {
                x.chance(task, 0, 8);
            }
            dueOften(x, 0, 78125, 1);
            dueOften(x, 1, 78125, 1);
            dueOften(x, 7, 5, 1);
        });
        test("HOW OFTEN a TASK is done.", "the greatest below", () -> {
            dueOften(allBackByOne(20), 0, 10000000, 4782969);
            dueOften(allBackByOne(20), 7, 10, 9);
        });
        test("HOW OFTEN a TASK is done.", "none goes back to it or across it", () -> {
            DesignTurns x = bare(3, 1);
            x.chance(2, 1, 8);
            dueOften(x, 0, 1, 1);
            dueOften(x, 1, 5, 1);
            dueOften(x, 2, 5, 1);
        });
        test("UNKNOWN.", "no such task, above", () -> unknown("often", (x, task) -> x.often(task, true)));
        test("UNKNOWN.", "no such task, below", () -> unknown("often", (x, task) -> x.often(task, false)));
    }

    private void dueOften(DesignTurns x, int task, long above, long below) {
        dueFraction("often(" + task + ")", x.often(task, true), x.often(task, false), above, below);
    }

    private void ends() {
        under("Promise 20: ends");
        String words = "When a TASK ENDS BESIDE the others, by THE TOLD ORDER.";
        test(words, "one task", () -> {
            due("ends(0)", bare(1, 1).ends(0), 1);
            due("ends(0)", bare(1, 20).ends(0), 20);
        });
        test(words, "the longest chain", () -> {
            for (int task = 0; task < MOST; task++) {
                due("ends(" + task + ")", chainBack(8, 20, 1).ends(task), 20 * (task + 1));
                due("ends(" + task + "), all torn", chain(8, 20, 9).ends(task), 20);
            }
        });
        test(words, "the last needs the first alone", () -> {
            DesignTurns x = bare(8, 3);
            x.need(7, 0, 1);
            due("ends(7)", x.ends(7), 6);
            due("ends(6)", x.ends(6), 3);
            x.swap(0, 7);
            due("ends(7), exchanged", x.ends(7), 3);
        });
        test("UNKNOWN.", "no such task", () -> unknown("ends", (x, task) -> x.ends(task)));
    }

    private void span() {
        under("Promise 21: span");
        test("THE SPAN, by THE TOLD ORDER", "one task", () -> {
            due("span()", bare(1, 1).span(), 1);
            due("span()", bare(1, 20).span(), 20);
        });
        test("THE SPAN, by THE TOLD ORDER", "all beside, all behind one another", () -> {
            due("span() without needs", bare(8, 20).span(), 20);
            due("span() of a chain, all torn", chain(8, 20, 9).span(), 20);
            due("span() of a chain back", chainBack(8, 20, 1).span(), 160);
            due("span() of all that need all", web(8, 20, 9).span(), 160);
        });
        test("THE SPAN, by THE TOLD ORDER", "the longest comes first, in the middle, last", () -> {
            for (int task = 0; task < MOST; task++) {
                DesignTurns x = bare(8, 1);
                x.time(task, 20);
                due("span()", x.span(), 20);
            }
        });
        test("(0 without TASKS)", "a new object", () -> due("span()", new DesignTurns().span(), 0));
        test("(0 without TASKS)", "a task was refused", () -> due("span()", tasks(0, 21).span(), 0));
    }
}
