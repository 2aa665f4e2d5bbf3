/** Promises 9 to 16: orders. */
final class EdgesOfOrders extends Edges {
    EdgesOfOrders(Sentences sentences) {
        super(sentences);
    }

    void all() {
        least();
        leastAt();
        saved();
        at();
        swap();
        swapRefused();
        take();
        guess();
        torn();
    }

    private void least() {
        under("Promise 9: least");
        test("The GUESS of THE LEAST ORDER.", "without tasks", () -> due("least()", new DesignTurns().least(), 0));
        test("The GUESS of THE LEAST ORDER.", "one task", () -> due("least()", bare(1, 20).least(), 0));
        test("The GUESS of THE LEAST ORDER.", "without needs and without rings", () -> {
            due("least() without needs", bare(8, 1).least(), 0);
            due("least() of a chain", chain(8, 1, 9).least(), 0);
            due("least() of a chain back", chainBack(8, 1, 9).least(), 0);
        });
        test("The GUESS of THE LEAST ORDER.", "the most", () -> due("least()", web(8, 1, 9).least(), 252));
        test("The GUESS of THE LEAST ORDER.", "of two alike", () -> {
            DesignTurns x = web(2, 1, 9);
            due("least()", x.least(), 9);
            x.need(1, 0, 8);
            due("least()", x.least(), 8);
        });
        test("The GUESS of THE LEAST ORDER.", "the longest ring", () -> {
            DesignTurns x = chain(8, 1, 9);
            x.need(7, 0, 9);
            x.need(4, 5, 1);
            due("least()", x.least(), 1);
        });
        test("The GUESS of THE LEAST ORDER.", "nothing changes", () -> {
            for (int count : SIZES) {
                changesNothing("least()", count, DesignTurns::least, rich(count).least());
            }
        });
    }

    private void leastAt() {
        under("Promise 10: leastAt");
        test("The TASK at a place of THE LEAST ORDER;", "one task", () -> due("leastAt(0)", bare(1, 1).leastAt(0), 0));
        test("The TASK at a place of THE LEAST ORDER;", "the first and the last of eight", () -> {
            due("leastAt(0)", chain(8, 1, 1).leastAt(0), 7);
            due("leastAt(7)", chain(8, 1, 1).leastAt(7), 0);
            due("leastAt(0) back", chainBack(8, 1, 1).leastAt(0), 0);
            due("leastAt(7) back", chainBack(8, 1, 1).leastAt(7), 7);
        });
        test("The TASK at a place of THE LEAST ORDER;", "the told order is another one", () -> {
            DesignTurns x = chain(8, 1, 1);
            x.swap(0, 1);
            due("leastAt(0)", x.leastAt(0), 7);
            due("at(0)", x.at(0), 1);
        });
        test("NONE: there is no such place.", "either side",
                () -> none("leastAt", (x, place) -> x.leastAt(place)));
    }

    /** NONE is told if there is no such place; the first and the last place are taken. */
    private void none(String told, CallOfOne call) {
        for (int count : SIZES) {
            for (int place : outside(count)) {
                changesNothing(told + " of " + place, count, x -> call.on(x, place), NONE);
            }
        }
        for (int count : SIZES_NOT_NONE) {
            isTaken(told + " of the first", count, x -> call.on(x, 0));
            isTaken(told + " of the last", count, x -> call.on(x, count - 1));
        }
    }

    private void saved() {
        under("Promise 11: saved");
        String words = "Of what the GUESS of THE LEAST ORDER would be less, if TASK a did not need TASK b";
        test(words, "there is no such need", () -> {
            due("saved(0, 0) of one task", bare(1, 1).saved(0, 0), 0);
            due("saved(0, 7) without needs", bare(8, 1).saved(0, 7), 0);
            due("saved(7, 7) of itself", web(8, 1, 9).saved(7, 7), 0);
            due("saved(7, 0) of a chain", chain(8, 1, 9).saved(7, 0), 0);
        });
        test(words, "a need of no ring", () -> {
            for (int task = 0; task < 7; task++) {
                due("saved(task, next)", chain(8, 1, 9).saved(task, task + 1), 0);
            }
        });
        test(words, "all of the guess", () -> {
            DesignTurns x = web(2, 1, 9);
            due("saved(0, 1)", x.saved(0, 1), 9);
            due("saved(1, 0)", x.saved(1, 0), 9);
        });
        test(words, "each need of the longest ring breaks it", () -> {
            DesignTurns x = chain(8, 1, 9);
            x.need(7, 0, 1);
            for (int task = 0; task < MOST; task++) {
                due("saved(task, next)", x.saved(task, (task + 1) % 8), 1);
            }
        });
        test(words, "all need all", () -> {
            due("saved(0, 7)", web(8, 1, 9).saved(0, 7), 9);
            due("saved(7, 0)", web(8, 1, 9).saved(7, 0), 9);
        });
        test("(nothing changes)", "needs there are and needs there are not", () -> {
            for (int count : SIZES_NOT_NONE) {
                for (int b = 0; b < count; b++) {
                    int other = b;
                    long want = rich(count).saved(0, other);
                    changesNothing("saved(0, " + other + ")", count, x -> x.saved(0, other), want);
                }
            }
        });
        test("UNKNOWN.", "no such task", () -> unknownEither("saved", (x, a, b) -> x.saved(a, b)));
    }

    private void at() {
        under("Promise 12: at");
        test("The TASK at a place of THE TOLD ORDER;", "one task", () -> due("at(0)", bare(1, 1).at(0), 0));
        test("The TASK at a place of THE TOLD ORDER;", "the first and the last of eight exchanged", () -> {
            DesignTurns x = bare(8, 1);
            x.swap(0, 7);
            for (int place = 0; place < MOST; place++) {
                due("at(" + place + ")", x.at(place), place == 0 ? 7 : place == 7 ? 0 : place);
            }
        });
        test("NONE.", "either side", () -> none("at", (x, place) -> x.at(place)));
    }

    private void swap() {
        under("Promise 13: swap");
        String words = "Two places of THE TOLD ORDER are exchanged: its GUESS then.";
        test(words, "the first and the last", () -> {
            for (int count : SIZES_OF_PAIRS) {
                DesignTurns x = bare(count, 1);
                x.need(0, count - 1, 9);
                due("swap(0, last)", x.swap(0, count - 1), 0);
                due("at(0)", x.at(0), count - 1);
                due("at(last)", x.at(count - 1), 0);
                due("swap(last, 0)", x.swap(count - 1, 0), 9);
                due("at(0) again", x.at(0), 0);
            }
        });
        test(words, "a place with itself", () -> {
            due("swap(0, 0) of one task", bare(1, 1).swap(0, 0), 0);
            for (int count : SIZES_NOT_NONE) {
                for (int place = 0; place < count; place++) {
                    int same = place;
                    changesNothing("swap(" + same + ", " + same + ")", count, x -> x.swap(same, same),
                            rich(count).guess());
                }
            }
        });
        test(words, "places, not tasks", () -> {
            DesignTurns x = bare(3, 1);
            x.swap(0, 1);
            x.swap(0, 2);
            due("at(0)", x.at(0), 2);
            due("at(1)", x.at(1), 0);
            due("at(2)", x.at(2), 1);
        });
        test(words, "the most", () -> due("swap(3, 4)", web(8, 1, 9).swap(3, 4), 252));
    }

    private void swapRefused() {
        test("BAD: there is no such place.", "without tasks", () -> {
            changesNothing("swap(0, 0)", 0, x -> x.swap(0, 0), BAD);
            changesNothing("swap(0, 1)", 0, x -> x.swap(0, 1), BAD);
        });
        test("BAD: there is no such place.", "either side, of one and of both", () -> {
            for (int count : SIZES) {
                for (int place : outside(count)) {
                    changesNothing("swap(" + place + ", " + place + ")", count, x -> x.swap(place, place), BAD);
                    changesNothing("swap(0, " + place + ")", count, x -> x.swap(0, place), BAD);
                    changesNothing("swap(" + place + ", 0)", count, x -> x.swap(place, 0), BAD);
                    changesNothing("swap(last, " + place + ")", count, x -> x.swap(count - 1, place), BAD);
                    changesNothing("swap(" + place + ", last)", count, x -> x.swap(place, count - 1), BAD);
                }
            }
        });
        test("BAD: there is no such place.", "there are all others", () -> {
            for (int count : SIZES_NOT_NONE) {
                isTaken("swap(0, last)", count, x -> x.swap(0, count - 1));
                isTaken("swap(last, 0)", count, x -> x.swap(count - 1, 0));
                isTaken("swap(last, last)", count, x -> x.swap(count - 1, count - 1));
            }
        });
    }

    private void take() {
        under("Promise 14: take");
        String words = "THE TOLD ORDER becomes THE LEAST ONE: its GUESS.";
        test(words, "without tasks", () -> changesNothing("take()", 0, DesignTurns::take, 0));
        test(words, "one task", () -> {
            DesignTurns x = bare(1, 1);
            due("take()", x.take(), 0);
            due("at(0)", x.at(0), 0);
            due("at(1)", x.at(1), NONE);
        });
        test(words, "the longest chain", () -> {
            DesignTurns x = chain(8, 1, 9);
            due("guess() before", x.guess(), 63);
            due("take()", x.take(), 0);
            for (int place = 0; place < MOST; place++) {
                due("at(" + place + ")", x.at(place), 7 - place);
            }
            due("guess()", x.guess(), 0);
        });
        test(words, "the most", () -> due("take()", web(8, 1, 9).take(), 252));
        test(words, "twice", () -> {
            DesignTurns x = rich(8);
            int first = x.take();
            int[] places = new int[MOST];
            for (int place = 0; place < MOST; place++) {
                places[place] = x.at(place);
                due("at(" + place + ")", places[place], x.leastAt(place));
            }
            due("take(), least()", first, x.least());
            due("take() again", x.take(), first);
            for (int place = 0; place < MOST; place++) {
                due("at(" + place + ") again", x.at(place), places[place]);
            }
        });
        test(words, "without needs 0, 1, 2, .. again", () -> {
            DesignTurns x = bare(8, 1);
            x.swap(0, 7);
            x.swap(3, 5);
            x.take();
            for (int place = 0; place < MOST; place++) {
                due("at(" + place + ")", x.at(place), place);
            }
        });
    }

    private void guess() {
        under("Promise 15: guess");
        test("The GUESS of THE TOLD ORDER.", "without tasks", () -> due("guess()", new DesignTurns().guess(), 0));
        test("The GUESS of THE TOLD ORDER.", "one task", () -> due("guess()", bare(1, 1).guess(), 0));
        test("The GUESS of THE TOLD ORDER.", "nothing torn, all torn", () -> {
            due("guess() of a chain back", chainBack(8, 1, 9).guess(), 0);
            due("guess() of a chain", chain(8, 1, 9).guess(), 63);
        });
        test("The GUESS of THE TOLD ORDER.", "the most", () -> {
            DesignTurns x = bare(8, 1);
            for (int a = 0; a < MOST; a++) {
                for (int b = a + 1; b < MOST; b++) {
                    x.need(a, b, 9);
                }
            }
            due("guess()", x.guess(), 252);
            due("least()", x.least(), 0);
        });
    }

    private void torn() {
        under("Promise 16: torn");
        String words = "Whether a NEED is TORN in THE TOLD ORDER: 1, 0";
        test(words, "one place and seven places behind, of strength 1 and 9", () -> {
            DesignTurns x = bare(8, 1);
            x.need(0, 7, 1);
            x.need(3, 4, 9);
            x.need(7, 1, 1);
            x.need(6, 5, 9);
            due("torn(0, 7)", x.torn(0, 7), 1);
            due("torn(3, 4)", x.torn(3, 4), 1);
            due("torn(7, 1)", x.torn(7, 1), 0);
            due("torn(6, 5)", x.torn(6, 5), 0);
            x.swap(0, 7);
            due("torn(0, 7), exchanged", x.torn(0, 7), 0);
            due("torn(7, 1), exchanged", x.torn(7, 1), 1);
        });
        test("(0: there is none)", "without needs", () -> {
            DesignTurns x = bare(8, 1);
            due("torn(0, 7)", x.torn(0, 7), 0);
            due("torn(7, 0)", x.torn(7, 0), 0);
        });
        test("(0: there is none)", "only the other way, or by a way of needs", () -> {
            DesignTurns x = chain(3, 1, 1);
            due("torn(1, 0)", x.torn(1, 0), 0);
            due("torn(0, 2)", x.torn(0, 2), 0);
            DesignTurns y = chainBack(3, 1, 1);
            due("torn(0, 1)", y.torn(0, 1), 0);
        });
        test("(0: there is none)", "of itself", () -> {
            for (int count : SIZES_NOT_NONE) {
                due("torn(last, last)", web(count, 1, 9).torn(count - 1, count - 1), 0);
            }
        });
        test("UNKNOWN.", "no such task", () -> unknownEither("torn", (x, a, b) -> x.torn(a, b)));
    }
}
