/** Long runs of mixed calls, the same ones each time, on the program and on the model. */
public final class ModelTests {
    private static final int RUNS = 300;
    // Nothing is promised after the 512th call, and one step makes up to 8.
    private static final int CALLS = 512 - 8;
    private static final int[] ODD = {Integer.MIN_VALUE, Integer.MAX_VALUE, -1, 0, 1, 1 << 30, -(1 << 30), 46341};

    private final Answers answers = new Answers();
    private PictureStages program;
    private Model model;
    private long state;
    private int seed;
    private int calls;

    /** A fixed sequence that looks mixed: an ordinary linear congruence. */
    private int below(int bound) {
        state = state * 6364136223846793005L + 1442695040888963407L;
        return (int) ((state >>> 33) % bound);
    }

    private int between(int low, int high) {
        return low + below(high - low + 1);
    }

    private int anyNumber() {
        return below(4) == 0 ? ODD[below(ODD.length)] : between(-200, 200);
    }

    /** Mostly from low to high, at times just outside or far off. */
    private int mostly(int low, int high) {
        int choice = below(24);
        if (choice == 0) {
            return ODD[below(ODD.length)];
        }
        return choice == 1 ? between(low - 2, high + 2) : between(low, high);
    }

    private int someStage() {
        int last = model.stages() - 1;
        return mostly(0, Math.max(0, last));
    }

    private void due(String call, int got, int want) {
        calls++;
        answers.due("run " + seed + ", call " + calls + ": " + call, got, want);
    }

    private void tokens() {
        int count = between(1, 8);
        for (int i = 0; i < count; i++) {
            int kind = below(5) == 0 ? mostly(0, 12) : below(2) == 0 ? between(0, 4) : between(5, 12);
            int a = kind == 3 ? mostly(0, 8) : kind == 4 ? mostly(0, Math.max(0, 9 * model.stages() - 1)) : mostly(-99, 99);
            due("token(" + kind + ", " + a + ")", program.token(kind, a), model.token(kind, a));
        }
    }

    private void finishStage() {
        for (int i = 0; i < 6; i++) {
            int kind = between(5, 11);
            due("token(" + kind + ", 0)", program.token(kind, 0), model.token(kind, 0));
        }
        due("stage()", program.stage(), model.stage());
    }

    private void change() {
        int k = someStage();
        int x = mostly(0, 7);
        int y = mostly(0, 5);
        int v = anyNumber();
        switch (below(12)) {
            case 0:
                int dx = anyNumber();
                int dy = anyNumber();
                calls++;
                program.slope(v, dx, dy);
                model.slope(v, dx, dy);
                break;
            case 1:
                due("apply(" + k + ")", program.apply(k), model.apply(k));
                break;
            case 2:
                due("clearDraft()", program.clearDraft(), model.clearDraft());
                break;
            case 3:
                due("dropStage()", program.dropStage(), model.dropStage());
                break;
            case 4:
                int how = mostly(0, 3);
                due("way(" + k + ", " + how + ")", program.way(k, how), model.way(k, how));
                break;
            case 5:
                due("stage()", program.stage(), model.stage());
                break;
            case 6:
                finishStage();
                break;
            case 7, 8:
                due("put(" + x + ", " + y + ", " + v + ")", program.put(x, y, v), model.put(x, y, v));
                break;
            default:
                tokens();
                break;
        }
    }

    private void ask() {
        int k = someStage();
        switch (below(8)) {
            case 0:
                due("stages()", program.stages(), model.stages());
                break;
            case 1:
                int column = mostly(0, 7);
                int row = mostly(0, 5);
                due("source(" + column + ", " + row + ")", program.source(column, row), model.source(column, row));
                break;
            case 2:
                int x = mostly(-4, 11);
                int y = mostly(-4, 9);
                due("value(" + k + ", " + x + ", " + y + ")", program.value(k, x, y), model.value(k, x, y));
                break;
            case 3:
                due("total(" + k + ")", program.total(k), model.total(k));
                break;
            case 4:
                due("peak(" + k + ")", program.peak(k), model.peak(k));
                break;
            case 5:
                int v = anyNumber();
                due("atLeast(" + k + ", " + v + ")", program.atLeast(k, v), model.atLeast(k, v));
                break;
            case 6:
                int l = someStage();
                due("differ(" + k + ", " + l + ")", program.differ(k, l), model.differ(k, l));
                break;
            default:
                due("changed(" + k + ")", program.changed(k), model.changed(k));
                break;
        }
    }

    private void run(int number) {
        seed = number;
        state = number;
        calls = 0;
        program = new PictureStages();
        model = new Model();
        while (calls < CALLS) {
            if (below(2) == 0) {
                change();
            } else {
                ask();
            }
        }
    }

    public static void main(String[] args) {
        ModelTests tests = new ModelTests();
        for (int number = 1; number <= RUNS; number++) {
            tests.run(number);
        }
        tests.answers.end();
    }
}
