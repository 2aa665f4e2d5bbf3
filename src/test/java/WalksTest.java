/** Long walks of calls, the same each time, on the class and on the plain model beside it. */
public final class WalksTest {
    private static final int CALLS = 512;

    private final Checks checks = new Checks();
    private long seed;
    private DesignTurns x;
    private Model model;

    public static void main(String[] args) {
        WalksTest test = new WalksTest();
        for (int walk = 0; walk < 120; walk++) {
            test.walk(walk);
        }
        test.checks.end();
    }

    private void walk(int number) {
        checks.promise("walk " + number);
        seed = number * 7919L + 17;
        x = new DesignTurns();
        model = new Model();
        // Orders of eight are slow in the model, so only some walks come so far.
        int tasks = number % 10 == 0 ? 8 : number % 7;
        for (int i = 0; i < tasks; i++) {
            comes();
        }
        int needs = draw(tasks * tasks + 1);
        for (int i = 0; i < needs; i++) {
            change(draw(2) * 6);
        }
        for (int call = tasks + needs; call < CALLS; call++) {
            int kind = draw(4);
            if (kind == 0) {
                change(draw(12));
            } else {
                ask(draw(tasks == 8 && draw(8) != 0 ? 19 : 24));
            }
        }
    }

    private void comes() {
        int time = 1 + draw(20);
        checks.due("task", x.task(time), model.task(time));
    }

    private void change(int kind) {
        int a = anyTask();
        int b = anyTask();
        switch (kind) {
            case 0, 1, 2, 3 -> {
                int strength = draw(4) == 0 ? 0 : draw(12) - 1;
                checks.due("need", x.need(a, b, strength), model.need(a, b, strength));
            }
            case 4 -> {
                int time = draw(23) - 1;
                checks.due("time", x.time(a, time), model.time(a, time));
            }
            case 5, 6, 7, 8 -> {
                int tenths = draw(3) == 0 ? draw(12) - 1 : draw(4);
                checks.due("chance", x.chance(a, b, tenths), model.chance(a, b, tenths));
            }
            case 9 -> checks.due("swap", x.swap(a, b), model.swap(a, b));
            case 10 -> {
                if (draw(6) == 0) {
                    checks.due("take", x.take(), model.take());
                }
            }
            default -> {
                int time = draw(40) == 0 && model.total(0) < 6 ? draw(23) - 1 : 0;
                checks.due("task", x.task(time), model.task(time));
            }
        }
    }

    private void ask(int kind) {
        int a = anyTask();
        int b = anyTask();
        boolean upper = draw(2) == 0;
        switch (kind) {
            case 0 -> checks.due("strength", x.strength(a, b), model.strength(a, b));
            case 1, 2 -> checks.due("leans", x.leans(a, b), model.leans(a, b));
            case 3 -> checks.due("blocks", x.blocks(), model.blocks());
            case 4, 5 -> checks.due("block", x.block(a), model.block(a));
            case 6 -> checks.due("at", x.at(a), model.at(a));
            case 7 -> checks.due("guess", x.guess(), model.guess());
            case 8 -> checks.due("torn", x.torn(a, b), model.torn(a, b));
            case 9 -> checks.due("mean", x.mean(upper), model.mean(upper));
            case 10 -> checks.due("often", x.often(a, upper), model.often(a, upper));
            case 11 -> checks.due("ends", x.ends(a), model.ends(a));
            case 12 -> checks.due("span", x.span(), model.span());
            case 13 -> checks.due("force", x.force(a, b, upper), model.force(a, b, upper));
            case 14 -> {
                int thousandths = draw(5) == 0 ? draw(1003) : draw(60);
                checks.due("reach", x.reach(a, thousandths), model.reach(a, thousandths));
            }
            case 15 -> {
                int what = draw(7) - 1;
                checks.due("total", x.total(what), model.total(what));
            }
            case 16, 17, 18 -> checks.due("swap", x.swap(a, b), model.swap(a, b));
            case 19 -> checks.due("least", x.least(), model.least());
            case 20 -> checks.due("leastAt", x.leastAt(a), model.leastAt(a));
            case 21 -> checks.due("saved", x.saved(a, b), model.saved(a, b));
            case 22 -> checks.due("between", x.between(a), model.between(a));
            default -> checks.due("team", x.team(b, a), model.team(b, a));
        }
    }

    /** Mostly a task that there is, now and then another number. */
    private int anyTask() {
        int tasks = model.total(0);
        switch (draw(24)) {
            case 0:
                return -1;
            case 1:
                return tasks;
            case 2:
                return draw(2) == 0 ? Integer.MAX_VALUE : Integer.MIN_VALUE;
            default:
                return tasks == 0 ? 0 : draw(tasks);
        }
    }

    private int draw(int below) {
        seed = seed * 6364136223846793005L + 1442695040888963407L;
        return (int) ((seed >>> 33) % below);
    }
}
