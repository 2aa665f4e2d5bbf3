/** What the document's terms bound and leave out, and how long an object is used. */
final class EdgesOfTerms extends Edges {
    EdgesOfTerms(Sentences sentences) {
        super(sentences);
    }

    void all() {
        use();
        under("Terms");
        tasks();
        leaning();
        blocks();
        orders();
        toldOrder();
        chances();
        goingBack();
        fractions();
        beside();
        teams();
        likeTeams();
        changes();
        refusals();
        badFirst();
        unknownFirst();
        numbersAsLongs();
    }

    private void use() {
        under("What it is");
        String words = "An object is used for at most 512 calls after it has been made;";
        test(words, "the last calls of 512", () -> {
            DesignTurns x = web(8, 20, 9);
            for (int call = 8 + 56; call < 500; call++) {
                x.swap(call % 8, call / 8 % 8);
            }
            due("take()", x.take(), 252);
            due("task(1)", x.task(1), FULL);
            due("time(7, 1)", x.time(7, 1), 20);
            due("need(7, 0, 1)", x.need(7, 0, 1), 9);
            due("chance(7, 0, 8)", x.chance(7, 0, 8), 0);
            due("chance(7, 1, 1)", x.chance(7, 1, 1), STATE);
            due("saved(0, 7)", x.saved(0, 7), 1);
            due("leastAt(0)", x.leastAt(0), 1);
            due("mean(true)", x.mean(true), 141 * 5);
            due("between(8)", x.between(8), 0);
            due("force(0, 7, true)", x.force(0, 7, true), 81);
            due("guess(), the 512th", x.guess(), 252);
        });
        test(words, "the same question till the end", () -> {
            DesignTurns x = rich(8);
            long first = dearest(x);
            for (int round = 1; round < 100; round++) {
                due("the same question again", dearest(x), first);
            }
        });
        test("what later calls answer is free.", "but they end, and none throws", () -> {
            DesignTurns x = rich(8);
            int ended = 0;
            for (int call = 0; call < 1000; call++) {
                x.swap(call % 8, call / 8 % 8);
                x.task(call);
                x.mean(true);
                ended++;
            }
            due("rounds that have ended", ended, 1000);
        });
    }

    private static long dearest(DesignTurns x) {
        return x.between(3) * 1000000L + x.saved(0, 1) * 10000L + x.leastAt(7) * 100L + x.team(3, 7);
    }

    private void tasks() {
        test("TASKS 0, 1, .. (8 at most), each with a TIME (1 .. 20).", "the last and the first of each", () -> {
            DesignTurns x = new DesignTurns();
            due("task(0)", x.task(0), BAD);
            due("task(1)", x.task(1), 0);
            due("task(20)", x.task(20), 1);
            due("task(21)", x.task(21), BAD);
            for (int number = 2; number < MOST; number++) {
                due("task(1)", x.task(1), number);
            }
            due("task(1)", x.task(1), FULL);
            due("total(4)", x.total(4), 27);
        });
        String words = "A NEED: a TASK needs the answer of another one, of a STRENGTH 1 .. 9 (0: it does not).";
        test(words, "the last and the first of each", () -> {
            DesignTurns x = bare(2, 1);
            due("need(0, 1, -1)", x.need(0, 1, -1), BAD);
            due("need(0, 1, 1)", x.need(0, 1, 1), 0);
            due("need(0, 1, 9)", x.need(0, 1, 9), 1);
            due("need(0, 1, 10)", x.need(0, 1, 10), BAD);
            due("strength(0, 1)", x.strength(0, 1), 9);
            due("total(1)", x.total(1), 1);
            due("need(0, 1, 0)", x.need(0, 1, 0), 9);
            due("total(1)", x.total(1), 0);
        });
        test(words, "of another one", () -> due("need(0, 0, 1)", bare(2, 1).need(0, 0, 1), STATE));
    }

    private void leaning() {
        test("A TASK LEANS on another one, if it needs it, or one that LEANS on it", "one need and seven", () -> {
            DesignTurns x = chain(8, 1, 1);
            due("leans(6, 7)", x.leans(6, 7), 1);
            due("leans(0, 7)", x.leans(0, 7), 1);
            x.need(3, 4, 0);
            due("leans(0, 7), one taken out", x.leans(0, 7), 0);
            due("leans(0, 3), one taken out", x.leans(0, 3), 1);
            due("leans(4, 7), one taken out", x.leans(4, 7), 1);
        });
        String words = "(so one that stands in a ring of NEEDS LEANS on itself, too)";
        test(words, "a ring of two", () -> {
            DesignTurns x = web(2, 1, 1);
            due("leans(0, 0)", x.leans(0, 0), 1);
            due("leans(1, 1)", x.leans(1, 1), 1);
            x.need(1, 0, 0);
            due("leans(0, 0), undone", x.leans(0, 0), 0);
            due("leans(1, 1), undone", x.leans(1, 1), 0);
        });
        test(words, "a ring of eight", () -> {
            DesignTurns x = chain(8, 1, 1);
            x.need(7, 0, 1);
            for (int a = 0; a < MOST; a++) {
                for (int b = 0; b < MOST; b++) {
                    due("leans(" + a + ", " + b + ")", x.leans(a, b), 1);
                }
            }
        });
        test(words, "ahead of a ring and behind it one does not stand in it", () -> {
            DesignTurns x = chain(4, 1, 1);
            x.need(2, 1, 1);
            due("leans(0, 0)", x.leans(0, 0), 0);
            due("leans(1, 1)", x.leans(1, 1), 1);
            due("leans(2, 2)", x.leans(2, 2), 1);
            due("leans(3, 3)", x.leans(3, 3), 0);
        });
    }

    private void blocks() {
        test("BLOCKS: two TASKS are in one, if each LEANS on the other one", "one way is too few", () -> {
            DesignTurns x = chain(2, 1, 9);
            due("blocks()", x.blocks(), 2);
            x.need(1, 0, 1);
            due("blocks(), both ways", x.blocks(), 1);
            due("block(0)", x.block(0), 0);
            due("block(1)", x.block(1), 0);
        });
        test("BLOCKS: two TASKS are in one, if each LEANS on the other one", "by ways across others", () -> {
            DesignTurns x = chain(8, 1, 1);
            x.need(7, 0, 1);
            due("block(3)", x.block(3), x.block(7));
            due("blocks()", x.blocks(), 1);
        });
        test("(each is in one with itself)", "without needs", () -> {
            for (int count : SIZES_NOT_NONE) {
                due("block(last)", bare(count, 1).block(count - 1), count - 1);
                due("blocks()", bare(count, 1).blocks(), count);
            }
        });
        String words = "BLOCKS are numbered 0, 1, .. so: of those not numbered yet of which no TASK needs one"
                + " of another BLOCK that is not numbered yet, the one with the least TASK comes next.";
        test(words, "two that may come: the one with the least task", () -> {
            // The ring of 2 and 3 needs 4; 0 needs the ring; 1 needs none.
            DesignTurns x = bare(5, 1);
            x.need(2, 3, 1);
            x.need(3, 2, 1);
            x.need(3, 4, 1);
            x.need(0, 2, 1);
            dueBlocks(x, 3, 0, 2, 2, 1);
        });
        test(words, "a lesser task comes in as soon as it may", () -> {
            DesignTurns x = bare(4, 1);
            x.need(0, 2, 1);
            dueBlocks(x, 2, 0, 1, 3);
        });
        test(words, "any task of the block holds it back", () -> {
            DesignTurns x = bare(4, 1);
            x.need(0, 1, 1);
            x.need(1, 0, 1);
            x.need(1, 3, 1);
            dueBlocks(x, 2, 2, 0, 1);
        });
        test(words, "needs inside it don't hold it back", () -> {
            DesignTurns x = web(3, 1, 9);
            x.task(1);
            dueBlocks(x, 0, 0, 0, 1);
        });
    }

    private void dueBlocks(DesignTurns x, int... want) {
        for (int task = 0; task < want.length; task++) {
            due("block(" + task + ")", x.block(task), want[task]);
        }
    }

    private void orders() {
        test("AN ORDER has each TASK once.", "the told and the least one", () -> {
            for (int count : SIZES) {
                DesignTurns x = rich(count);
                int told = 0;
                int least = 0;
                for (int place = 0; place < count; place++) {
                    told |= 1 << x.at(place);
                    least |= 1 << x.leastAt(place);
                }
                due("tasks of the told order", told, (1 << count) - 1);
                due("tasks of the least order", least, (1 << count) - 1);
            }
        });
        test("A NEED is TORN in it, if the TASK that is needed comes behind the one that needs it.", "next", () -> {
            DesignTurns x = chain(2, 1, 1);
            due("torn(0, 1)", x.torn(0, 1), 1);
            x.swap(0, 1);
            due("torn(0, 1), exchanged", x.torn(0, 1), 0);
        });
        test("Its GUESS is the sum of STRENGTHS of NEEDS that are TORN.", "none, one, both", () -> {
            DesignTurns x = bare(3, 1);
            x.need(2, 0, 9);
            due("guess() of none", x.guess(), 0);
            x.need(0, 1, 1);
            due("guess() of one", x.guess(), 1);
            x.need(0, 2, 9);
            due("guess() of two", x.guess(), 10);
        });
        test("THE LEAST ORDER has the least GUESS;", "one weak need against two", () -> {
            DesignTurns x = web(2, 1, 9);
            x.need(0, 1, 8);
            due("leastAt(0), the weaker one is torn", x.leastAt(0), 0);
            x.need(1, 0, 7);
            due("leastAt(0), the other is weaker", x.leastAt(0), 1);
        });
        test("of like ones the first by TASKS (compared place by place).", "all are alike", () -> {
            for (int place = 0; place < MOST; place++) {
                due("leastAt(" + place + ")", bare(8, 1).leastAt(place), place);
                due("leastAt(" + place + "), all need all", web(8, 1, 9).leastAt(place), place);
            }
        });
        test("of like ones the first by TASKS (compared place by place).", "an early place counts more", () -> {
            // 2 has to come ahead of 0 alone: 1, 2, 0 comes ahead of 2, 0, 1.
            DesignTurns x = bare(3, 1);
            x.need(0, 2, 1);
            due("leastAt(0)", x.leastAt(0), 1);
            due("leastAt(1)", x.leastAt(1), 2);
            due("leastAt(2)", x.leastAt(2), 0);
        });
    }

    private void toldOrder() {
        String words = "THE TOLD ORDER is 0, 1, 2, .. at first, and whenever a TASK comes;";
        test(words, "at first", () -> {
            for (int count : SIZES) {
                dueIdentity(bare(count, 1), count);
            }
        });
        test(words, "whenever one comes", () -> {
            for (int count : SIZES_NOT_MOST) {
                DesignTurns x = rich(count);
                x.task(1);
                dueIdentity(x, count + 1);
                due("at(next)", x.at(count + 1), NONE);
            }
        });
        test(words, "when it was taken", () -> {
            DesignTurns x = chain(7, 1, 1);
            x.take();
            x.task(1);
            dueIdentity(x, 8);
        });
        test(words, "not when none comes", () -> {
            changesNothing("task(0)", 5, x -> x.task(0), BAD);
            changesNothing("task(21)", 5, x -> x.task(21), BAD);
            changesNothing("task(1), a ninth", 8, x -> x.task(1), FULL);
        });
        test("places may be exchanged.", "any two", () -> {
            for (int i = 0; i < MOST; i++) {
                for (int j = 0; j < MOST; j++) {
                    DesignTurns x = bare(8, 1);
                    x.swap(i, j);
                    for (int place = 0; place < MOST; place++) {
                        due("at(" + place + ")", x.at(place), place == i ? j : place == j ? i : place);
                    }
                }
            }
        });
    }

    private void dueIdentity(DesignTurns x, int count) {
        for (int place = 0; place < count; place++) {
            due("at(" + place + ") of " + count, x.at(place), place);
        }
        due("at(" + count + ")", x.at(count), NONE);
    }

    private void chances() {
        String words = "GOING BACK: for two TASKS a, b a CHANCE in tenths (0 .. 8; those of one a together 8 at most)"
                + " that, when a is done, b is to be done again.";
        test(words, "the last and the first of each", () -> {
            DesignTurns x = bare(3, 1);
            due("chance(0, 1, -1)", x.chance(0, 1, -1), BAD);
            due("chance(0, 1, 0)", x.chance(0, 1, 0), 0);
            due("chance(0, 1, 8)", x.chance(0, 1, 8), 0);
            due("chance(0, 1, 9)", x.chance(0, 1, 9), BAD);
            due("chance(0, 2, 1)", x.chance(0, 2, 1), STATE);
            due("chance(0, 1, 7)", x.chance(0, 1, 7), 8);
            due("chance(0, 2, 1)", x.chance(0, 2, 1), 0);
            due("chance(0, 2, 2)", x.chance(0, 2, 2), STATE);
            due("chance(0, 0, 1)", x.chance(0, 0, 1), STATE);
        });
        test(words, "when a is done, b again, not a when b is done", () -> {
            DesignTurns x = bare(2, 1);
            x.chance(0, 1, 5);
            due("mean(true)", x.mean(true), 2);
            x.chance(0, 1, 0);
            x.chance(1, 0, 5);
            due("mean(true)", x.mean(true), 4);
        });
    }

    private void goingBack() {
        test("In THE TOLD ORDER one goes on so: the TASK at a place is done (it takes its TIME);", "1 and 20", () -> {
            due("mean(true)", tasks(1, 20).mean(true), 21);
            DesignTurns x = tasks(1, 20);
            x.time(0, 20);
            due("mean(true), another time", x.mean(true), 40);
        });
        String words = "then, by the CHANCES of those b that stand at places ahead of it, one goes back to the place"
                + " of b, and on from there again; else one goes on to the next place.";
        test(words, "all from there on is done again", () -> {
            DesignTurns x = tasks(1, 2, 4, 8);
            x.chance(2, 0, 5);
            dueFraction("mean", x.mean(true), x.mean(false), 22, 1);
            dueFraction("often(1)", x.often(1, true), x.often(1, false), 2, 1);
            dueFraction("often(3)", x.often(3, true), x.often(3, false), 1, 1);
        });
        test(words, "from a place to the one just ahead of it", () -> {
            DesignTurns x = tasks(1, 2, 4, 8);
            x.chance(2, 1, 5);
            dueFraction("mean", x.mean(true), x.mean(false), 21, 1);
        });
        test("(CHANCES of those behind count for nothing.)", "from the first place", () -> {
            DesignTurns x = tasks(1, 2, 4, 8);
            x.chance(0, 3, 8);
            x.chance(2, 3, 8);
            dueFraction("mean", x.mean(true), x.mean(false), 15, 1);
            x.chance(1, 0, 5);
            x.chance(1, 2, 3);
            dueFraction("mean", x.mean(true), x.mean(false), 18, 1);
        });
        test("(CHANCES of those behind count for nothing.)", "by the told order", () -> {
            DesignTurns x = tasks(1, 2);
            x.chance(0, 1, 5);
            x.swap(0, 1);
            dueFraction("mean", x.mean(true), x.mean(false), 6, 1);
        });
        test("THE MEAN: how long it takes on the mean till one goes on from the last place;", "of two", () -> {
            DesignTurns x = tasks(20, 20);
            x.chance(1, 0, 8);
            dueFraction("mean", x.mean(true), x.mean(false), 200, 1);
        });
        test("HOW OFTEN each TASK is done on the mean.", "times don't count", () -> {
            DesignTurns x = tasks(20, 1);
            x.chance(1, 0, 8);
            dueFraction("often(0)", x.often(0, true), x.often(0, false), 5, 1);
            dueFraction("often(1)", x.often(1, true), x.often(1, false), 5, 1);
        });
    }

    private void fractions() {
        String words = "FRACTIONS are told in least terms: what is above, what is below (1 and more).";
        test(words, "nothing by one", () -> {
            dueFraction("mean without tasks", new DesignTurns().mean(true), new DesignTurns().mean(false), 0, 1);
            DesignTurns x = bare(8, 1);
            dueFraction("force of none", x.force(0, 7, true), x.force(0, 7, false), 0, 1);
        });
        test(words, "whole numbers by one", () -> {
            DesignTurns x = bare(8, 20);
            x.chance(7, 0, 8);
            dueFraction("mean", x.mean(true), x.mean(false), 800, 1);
            dueFraction("often(7)", x.often(7, true), x.often(7, false), 5, 1);
            dueFraction("force of itself", x.force(7, 7, true), x.force(7, 7, false), 1, 1);
        });
        test(words, "one chance of each", () -> {
            long[] often = {10, 5, 10, 5, 2, 5, 10, 5};
            long[] oftenBelow = {9, 4, 7, 3, 1, 2, 3, 1};
            long[] mean = {30, 135, 270, 45, 54, 135, 90, 135};
            long[] meanBelow = {1, 4, 7, 1, 1, 2, 1, 1};
            for (int tenths = 1; tenths <= 8; tenths++) {
                DesignTurns x = tasks(20, 7);
                x.chance(1, 0, tenths);
                int i = tenths - 1;
                dueFraction("often(1)", x.often(1, true), x.often(1, false), often[i], oftenBelow[i]);
                dueFraction("mean", x.mean(true), x.mean(false), mean[i], meanBelow[i]);
            }
        });
    }

    private void beside() {
        String words = "BESIDE one another, by an ORDER: each TASK begins when all that it needs, and that stand"
                + " ahead of it in the ORDER, are done (at 0, if there are none): it ENDS its TIME later;";
        test(words, "none ahead", () -> {
            DesignTurns x = chain(8, 1, 1);
            for (int task = 0; task < MOST; task++) {
                due("ends(" + task + ")", x.ends(task), 1);
            }
        });
        test(words, "the latest of all it needs", () -> {
            DesignTurns x = tasks(3, 20, 1, 5);
            x.need(3, 0, 9);
            x.need(3, 1, 1);
            x.need(3, 2, 9);
            due("ends(3)", x.ends(3), 25);
            x.swap(1, 3);
            due("ends(3), the latest one behind", x.ends(3), 8);
        });
        test(words, "it is the order that tells, not the number", () -> {
            DesignTurns x = chain(2, 20, 1);
            due("ends(0), torn", x.ends(0), 20);
            x.swap(0, 1);
            due("ends(0), not torn", x.ends(0), 40);
        });
        test("THE SPAN is the latest END.", "not the last one's", () -> {
            DesignTurns x = tasks(20, 1);
            due("span()", x.span(), 20);
            due("ends(1)", x.ends(1), 1);
        });
    }

    private void teams() {
        test("TEAMS of k TASKS at most (1 .. 8):", "the last and the first of k", () -> {
            DesignTurns x = web(8, 1, 1);
            due("between(0)", x.between(0), BAD);
            due("between(1)", x.between(1), 56);
            due("between(8)", x.between(8), 0);
            due("between(9)", x.between(9), BAD);
            due("team(0, 0)", x.team(0, 0), BAD);
            due("team(9, 0)", x.team(9, 0), BAD);
        });
        test("TEAMS of k TASKS at most (1 .. 8):", "none has more", () -> {
            for (int k = 1; k <= 8; k++) {
                DesignTurns x = web(8, 1, 9);
                int[] sizes = new int[MOST];
                for (int task = 0; task < MOST; task++) {
                    sizes[x.team(k, task)]++;
                }
                for (int size : sizes) {
                    due("of k = " + k + " too many", Math.max(size, k), k);
                }
            }
        });
        test("each TASK is in one;", "the numbers go on without a gap", () -> {
            for (int k = 1; k <= 8; k++) {
                DesignTurns x = rich(8);
                int met = 0;
                for (int task = 0; task < MOST; task++) {
                    int team = x.team(k, task);
                    due("team(" + k + ", " + task + ") at most", Math.max(team, met), met);
                    due("team(" + k + ", " + task + ") at least", Math.min(team, 0), 0);
                    met = Math.max(met, team + 1);
                }
            }
        });
        test("BETWEEN is the sum of STRENGTHS of NEEDS of TASKS that are in unlike ones.", "both ways", () -> {
            DesignTurns x = bare(2, 1);
            x.need(0, 1, 9);
            x.need(1, 0, 1);
            due("between(1)", x.between(1), 10);
            due("between(2)", x.between(2), 0);
        });
    }

    private void likeTeams() {
        test("The BEST TEAMS have the least BETWEEN;", "ahead of the fewest teams", () -> {
            DesignTurns x = web(2, 1, 1);
            x.task(1);
            x.task(1);
            x.need(2, 3, 1);
            x.task(1);
            x.task(1);
            x.need(4, 5, 1);
            dueTeams(x, 3, 0, 0, 1, 1, 2, 2);
        });
        test("of like ones the fewest TEAMS;", "ahead of the lesser numbers", () -> {
            // 0, 0, 1, 2, 2, 1 would have the lesser numbers, but three teams.
            DesignTurns x = bare(6, 1);
            x.need(2, 5, 1);
            x.need(4, 3, 1);
            dueTeams(x, 3, 0, 1, 0, 1, 1, 0);
        });
        test("of like ones the fewest TEAMS;", "one team, if it may be one", () -> {
            for (int count : SIZES_NOT_NONE) {
                for (int task = 0; task < count; task++) {
                    due("team(count, " + task + ")", bare(count, 1).team(count, task), 0);
                }
            }
        });
        String words = "of like ones, TASK by TASK the lesser number, TEAMS being numbered as they are met"
                + " (TASK 0 is in TEAM 0).";
        test(words, "as many as may be stand in the first", () -> {
            dueTeams(bare(8, 1), 3, 0, 0, 0, 1, 1, 1, 2, 2);
            dueTeams(bare(8, 1), 5, 0, 0, 0, 0, 0, 1, 1, 1);
            dueTeams(bare(8, 1), 2, 0, 0, 1, 1, 2, 2, 3, 3);
        });
        test(words, "task 0 in team 0", () -> {
            for (int count : SIZES_NOT_NONE) {
                for (int k = 1; k <= 8; k++) {
                    due("team(" + k + ", 0)", rich(count).team(k, 0), 0);
                }
            }
        });
    }

    private void dueTeams(DesignTurns x, int k, int... want) {
        for (int task = 0; task < want.length; task++) {
            due("team(" + k + ", " + task + ")", x.team(k, task), want[task]);
        }
    }

    private void changes() {
        String words = "A CHANGE of a TASK spreads to those that need it, and so on: along a WAY of NEEDS no TASK"
                + " of which comes twice its FORCE is the product of STRENGTHS by 10 each.";
        test(words, "a ring makes none stronger", () -> {
            DesignTurns x = web(3, 1, 9);
            for (int a = 0; a < 3; a++) {
                for (int b = 0; b < 3; b++) {
                    dueForce(x, a, b, a == b ? 1 : 9, a == b ? 1 : 10);
                }
            }
        });
        test(words, "one need and two", () -> {
            DesignTurns x = bare(3, 1);
            x.need(1, 0, 3);
            x.need(2, 1, 7);
            dueForce(x, 0, 1, 3, 10);
            dueForce(x, 1, 2, 7, 10);
            dueForce(x, 0, 2, 21, 100);
        });
        test("The FORCE from a TASK to another one is that of the strongest WAY, a FRACTION;", "a longer way", () -> {
            // 0.9 by 0.9 is 0.81: stronger than 0.8, weaker than 0.9.
            DesignTurns x = chainBack(3, 1, 9);
            dueForce(x, 0, 2, 81, 100);
            x.need(2, 0, 8);
            dueForce(x, 0, 2, 81, 100);
            x.need(2, 0, 9);
            dueForce(x, 0, 2, 9, 10);
        });
        test("0, if there is none;", "no way", () -> {
            DesignTurns x = bare(8, 1);
            x.need(0, 1, 9);
            dueForce(x, 0, 1, 0, 1);
            dueForce(x, 1, 0, 9, 10);
            dueForce(x, 2, 7, 0, 1);
        });
        test("of a TASK to itself 1.", "without needs, and in a ring", () -> {
            for (int count : SIZES_NOT_NONE) {
                for (int task = 0; task < count; task++) {
                    dueForce(bare(count, 1), task, task, 1, 1);
                    dueForce(web(count, 1, 9), task, task, 1, 1);
                }
            }
        });
    }

    private void dueForce(DesignTurns x, int a, int b, long above, long below) {
        dueFraction("force(" + a + ", " + b + ")", x.force(a, b, true), x.force(a, b, false), above, below);
    }

    private void refusals() {
        test("REFUSALS: UNKNOWN -1 (there is no such TASK), BAD -2, STATE -3, FULL -4.", "the constants", () -> {
            due("UNKNOWN", DesignTurns.UNKNOWN, -1);
            due("BAD", DesignTurns.BAD, -2);
            due("STATE", DesignTurns.STATE, -3);
            due("FULL", DesignTurns.FULL, -4);
        });
        test("REFUSALS: UNKNOWN -1 (there is no such TASK), BAD -2, STATE -3, FULL -4.", "each is told", () -> {
            DesignTurns x = bare(8, 1);
            due("time(8, 1)", x.time(8, 1), -1);
            due("time(7, 0)", x.time(7, 0), -2);
            due("need(7, 7, 1)", x.need(7, 7, 1), -3);
            due("task(1)", x.task(1), -4);
        });
        test("What is refused changes nothing.", "all of them, one behind the other", () -> {
            DesignTurns x = rich(8);
            x.task(1);
            x.task(0);
            x.time(8, 5);
            x.time(0, 21);
            x.need(0, 8, 5);
            x.need(0, 7, 10);
            x.need(7, 7, 5);
            x.swap(0, 8);
            x.swap(-1, 7);
            x.chance(8, 0, 1);
            x.chance(7, 0, 9);
            x.chance(7, 7, 1);
            x.chance(7, 0, 8);
            due("all that it tells is the same", look(x).equals(look(rich(8))) ? 1 : 0, 1);
        });
        test("NONE is -9.", "the constant, and told", () -> {
            due("NONE", DesignTurns.NONE, -9);
            due("at(0)", new DesignTurns().at(0), -9);
            due("leastAt(0)", new DesignTurns().leastAt(0), -9);
            due("at(8)", bare(8, 1).at(8), -9);
            due("leastAt(8)", bare(8, 1).leastAt(8), -9);
        });
    }

    private void badFirst() {
        String words = "Of several what is told first.";
        test(words, "task: BAD ahead of FULL", () -> {
            for (int time : outside(1, 20)) {
                changesNothing("task(" + time + ")", MOST, x -> x.task(time), BAD);
            }
        });
        test(words, "need: BAD ahead of STATE", () -> {
            for (int count : SIZES_NOT_NONE) {
                for (int strength : outside(0, 9)) {
                    changesNothing("need(0, 0, " + strength + ")", count, x -> x.need(0, 0, strength), BAD);
                }
            }
        });
        test(words, "chance: BAD ahead of STATE, both are one", () -> {
            for (int count : SIZES_NOT_NONE) {
                for (int tenths : outside(0, 8)) {
                    changesNothing("chance(0, 0, " + tenths + ")", count, x -> x.chance(0, 0, tenths), BAD);
                }
            }
        });
        test(words, "chance: BAD ahead of STATE, above 8 together", () -> {
            for (int tenths : outside(0, 8)) {
                changesNothing("chance(7, 3, " + tenths + ")", MOST, x -> x.chance(7, 3, tenths), BAD);
            }
        });
    }

    private void unknownFirst() {
        String words = "Of several what is told first.";
        test(words, "time: UNKNOWN ahead of BAD", () -> {
            unknownAhead("time(t, 0)", SIZES, (x, task) -> x.time(task, 0));
            unknownAhead("time(t, 21)", SIZES, (x, task) -> x.time(task, 21));
        });
        test(words, "need: UNKNOWN ahead of BAD", () -> {
            unknownAhead("need(t, 0, -1)", SIZES, (x, task) -> x.need(task, 0, -1));
            unknownAhead("need(0, t, 10)", SIZES, (x, task) -> x.need(0, task, 10));
        });
        test(words, "need: UNKNOWN ahead of STATE, and of both", () -> {
            unknownAhead("need(t, t, 1)", SIZES, (x, task) -> x.need(task, task, 1));
            unknownAhead("need(t, t, 10)", SIZES, (x, task) -> x.need(task, task, 10));
        });
        test(words, "chance: UNKNOWN ahead of BAD", () -> {
            unknownAhead("chance(t, 0, -1)", SIZES, (x, task) -> x.chance(task, 0, -1));
            unknownAhead("chance(0, t, 9)", SIZES, (x, task) -> x.chance(0, task, 9));
        });
        test(words, "chance: UNKNOWN ahead of STATE, both are one", () -> {
            unknownAhead("chance(t, t, 1)", SIZES, (x, task) -> x.chance(task, task, 1));
            unknownAhead("chance(t, t, 9)", SIZES, (x, task) -> x.chance(task, task, 9));
        });
        test(words, "chance: UNKNOWN ahead of STATE, above 8 together",
                () -> unknownAhead("chance(0, t, 8)", SIZES_NOT_NONE, (x, task) -> x.chance(0, task, 8)));
        test(words, "team: UNKNOWN ahead of BAD", () -> {
            unknownAhead("team(0, t)", SIZES, (x, task) -> x.team(0, task));
            unknownAhead("team(9, t)", SIZES, (x, task) -> x.team(9, task));
        });
        test(words, "reach: UNKNOWN ahead of BAD", () -> {
            unknownAhead("reach(t, 0)", SIZES, (x, task) -> x.reach(task, 0));
            unknownAhead("reach(t, 1001)", SIZES, (x, task) -> x.reach(task, 1001));
        });
    }

    private void unknownAhead(String told, int[] sizes, CallOfOne call) {
        for (int count : sizes) {
            for (int task : outside(count)) {
                changesNothing(told + " of " + task, count, x -> call.on(x, task), UNKNOWN);
            }
        }
    }

    private void numbersAsLongs() {
        test("Numbers told as longs: refusals are told likewise.", "above and below", () -> {
            for (int count : SIZES) {
                DesignTurns x = rich(count);
                for (boolean upper : new boolean[] {true, false}) {
                    long often = x.often(count, upper);
                    long from = x.force(count, count, upper);
                    due("often(" + count + ", " + upper + ")", often, -1L);
                    due("force(" + count + ", " + count + ", " + upper + ")", from, -1L);
                    due("often(-1, " + upper + ")", x.often(-1, upper), -1L);
                    due("force(-1, -1, " + upper + ")", x.force(-1, -1, upper), -1L);
                }
            }
        });
    }
}
