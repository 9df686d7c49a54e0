import java.util.function.Consumer;
import java.util.function.Supplier;
import java.util.function.ToIntFunction;

/** A test for each sentence ahead of the promises that names a boundary case. */
public final class TermTests extends Checks {

    private static void callNumber512() {
        PictureStages p = new PictureStages();
        made(p, SOURCE, HERE, NUMBER, 1, ADD, 0);
        int calls = 4;
        for (; calls < 510; calls++) {
            due("apply as call " + (calls + 1), p.apply(0), 48);
        }
        due("source as call 511", p.source(7, 5), 506);
        due("total as call 512", p.total(0), 48 * 507);
    }

    private static void cellsOfTheSource() {
        PictureStages p = new PictureStages();
        for (int cell = 0; cell < 48; cell++) {
            p.put(cell % 8, cell / 8, 1000 - 7 * cell);
        }
        for (int cell = 0; cell < 48; cell++) {
            due("cell " + cell, p.source(cell % 8, cell / 8), 1000 - 7 * cell);
        }
        p.put(0, 0, LOWEST);
        p.put(7, 5, HIGHEST);
        due("the lowest number in the first cell", p.source(0, 0), LOWEST);
        due("the highest number in the last cell", p.source(7, 5), HIGHEST);
    }

    private static int nearest(int at, int last) {
        return at < 0 ? 0 : at > last ? last : at;
    }

    private static void dueEverywhere(String name, PictureStages p, int k, int dx, int dy) {
        for (int y = -4; y <= 9; y++) {
            for (int x = -4; x <= 11; x++) {
                int want = nearest(x + dx, 7) + 10 * nearest(y + dy, 5);
                due(name + " at (" + x + ", " + y + ")", p.value(k, x, y), want);
            }
        }
    }

    private static void sourceBeyondItsEdges() {
        for (int a = 0; a < 9; a++) {
            dueEverywhere("SOURCE " + a, onSlope(0, 1, 10, SOURCE, a), 0, a / 3 - 1, a % 3 - 1);
        }
    }

    /** The source as far off as any question reaches: five neighbours away from where value asks. */
    private static void sourceFarBeyondItsEdges() {
        for (int a = 0; a < 9; a++) {
            PictureStages p = onSlope(0, 1, 10, SOURCE, a);
            for (int k = 1; k < 5; k++) {
                made(p, STAGE, 9 * (k - 1) + a);
            }
            dueEverywhere("five times neighbour " + a, p, 4, 5 * (a / 3 - 1), 5 * (a % 3 - 1));
        }
    }

    private static void fiveStages() {
        PictureStages p = new PictureStages();
        for (int k = 0; k < 5; k++) {
            due("stage " + k, made(p, NUMBER, k), k);
        }
        due("a sixth stage", made(p, NUMBER, 5), -2);
        for (int k = 0; k < 5; k++) {
            due("value of stage " + k, p.value(k, 0, 0), k);
        }
        due("value of stage 5", p.value(5, 0, 0), -1);
    }

    /** Beyond the edges a stage is what its formula gives there, not its nearest cell. */
    private static void stagesBeyondTheEdges() {
        for (int b = 0; b < 9; b++) {
            PictureStages p = onSlope(0, 0, 0, COLUMN, 0, NUMBER, 50, MUL, 0, ROW, 0, ADD, 0);
            for (int k = 1; k < 5; k++) {
                made(p, STAGE, 9 * (k - 1) + b);
            }
            for (int k = 0; k < 5; k++) {
                int dx = k * (b / 3 - 1);
                int dy = k * (b % 3 - 1);
                String name = "neighbour " + b + " " + k + " times at ";
                due(name + "(-4, -4)", p.value(k, -4, -4), 50 * (-4 + dx) - 4 + dy);
                due(name + "(11, -4)", p.value(k, 11, -4), 50 * (11 + dx) - 4 + dy);
                due(name + "(-4, 9)", p.value(k, -4, 9), 50 * (-4 + dx) + 9 + dy);
                due(name + "(11, 9)", p.value(k, 11, 9), 50 * (11 + dx) + 9 + dy);
            }
        }
    }

    private static void sixFormulas() {
        PictureStages p = new PictureStages();
        for (int count = 1; count <= 6; count++) {
            due("formula " + count, p.token(NUMBER, count), count);
        }
        due("a seventh formula", p.token(NUMBER, 7), -4);
        for (int count = 5; count >= 1; count--) {
            due("joined to " + count, p.token(SUB, 0), count);
        }
        p.stage();
        due("all six count", p.value(0, 0, 0), 1 - (2 - (3 - (4 - (5 - 6)))));
    }

    private static void fourteenTokens() {
        PictureStages p = new PictureStages();
        draft(p, NUMBER, 1);
        for (int i = 0; i < 6; i++) {
            draft(p, NUMBER, 10, ADD, 0);
        }
        due("token 14", p.token(HALF, 0), 1);
        due("token 15", p.token(HALF, 0), -2);
        p.stage();
        due("all 14 count", p.value(0, 0, 0), 30);
    }

    private static void topOfTheDraft() {
        PictureStages p = new PictureStages();
        made(p, NUMBER, 9, NUMBER, 4, SUB, 0);
        due("SUB", p.value(0, 0, 0), 5);
        made(p, NUMBER, 9, NUMBER, 4, LESS, 0);
        due("LESS", p.value(1, 0, 0), 0);
        made(p, NUMBER, 1, NUMBER, -2, NUMBER, -3, PICK, 0);
        due("PICK", p.value(2, 0, 0), -2);
        // What lies below the formulas taken off stays as it is.
        made(p, NUMBER, 50, NUMBER, 1, NUMBER, 7, NUMBER, 8, PICK, 0, SUB, 0);
        due("PICK above another formula", p.value(3, 0, 0), 43);
    }

    private static void numberRange() {
        for (int a = -99; a <= 99; a += 9) {
            PictureStages p = new PictureStages();
            due("NUMBER " + a, p.token(NUMBER, a), 1);
            p.stage();
            due("NUMBER " + a + " as a stage", p.value(0, 5, 5), a);
        }
        PictureStages p = new PictureStages();
        for (int a : new int[] {-100, 100, LOWEST, HIGHEST}) {
            due("NUMBER " + a, p.token(NUMBER, a), -1);
        }
    }

    private static void columnAndRow() {
        PictureStages p = onSlope(500, 1, 10, COLUMN, 0);
        made(p, ROW, 0);
        for (int x = -4; x <= 11; x++) {
            due("COLUMN at " + x, p.value(0, x, 2), x);
        }
        for (int y = -4; y <= 9; y++) {
            due("ROW at " + y, p.value(1, 2, y), y);
        }
    }

    private static void sourceRange() {
        for (int a = 0; a <= 8; a++) {
            PictureStages p = new PictureStages();
            p.slope(0, 1, 10);
            due("SOURCE " + a, p.token(SOURCE, a), 1);
            p.stage();
            due("SOURCE " + a + " as a stage", p.value(0, 3, 3), 33 + a / 3 - 1 + 10 * (a % 3 - 1));
        }
        PictureStages p = new PictureStages();
        for (int a : new int[] {-1, 9, -9, LOWEST, HIGHEST}) {
            due("SOURCE " + a, p.token(SOURCE, a), -1);
        }
    }

    private static void stageRange() {
        for (int count = 0; count <= 5; count++) {
            PictureStages p = withStages(count);
            for (int a : new int[] {-1, -8, -9, -10, 9 * count, 9 * count + 8, 45, LOWEST, HIGHEST}) {
                due("STAGE " + a + " of " + count, p.token(STAGE, a), -1);
            }
            for (int a = 0; a < 9 * count; a++) {
                due("STAGE " + a + " of " + count, p.token(STAGE, a), 1);
                p.clearDraft();
            }
        }
    }

    private static void stageAndNeighbour() {
        PictureStages p = new PictureStages();
        for (int k = 0; k < 4; k++) {
            made(p, NUMBER, 90, NUMBER, k, MUL, 0, COLUMN, 0, NUMBER, 10, MUL, 0, ADD, 0, ROW, 0, ADD, 0);
        }
        for (int a = 0; a < 36; a++) {
            made(p, STAGE, a);
            int b = a % 9;
            due("STAGE " + a, p.value(4, 2, 3), 90 * (a / 9) + 10 * (2 + b / 3 - 1) + 3 + b % 3 - 1);
            p.dropStage();
        }
    }

    private static void stageThatThereIsNoMore() {
        PictureStages p = withStages(5);
        for (int k = 4; k >= 0; k--) {
            p.dropStage();
            due("STAGE of dropped " + k, p.token(STAGE, 9 * k), -1);
            due("STAGE of dropped " + k + ", last neighbour", p.token(STAGE, 9 * k + 8), -1);
        }
    }

    /** Numbers that no NUMBER token can name reach a formula through the source. */
    private static void dueJoined(String name, int kind, int f, int g, int want) {
        PictureStages p = new PictureStages();
        p.put(0, 0, f);
        p.put(1, 0, g);
        made(p, SOURCE, HERE, SOURCE, 7, kind, 0);
        due(name + " of " + f + " and " + g, p.value(0, 0, 0), want);
    }

    private static void sumsWrap() {
        dueJoined("ADD", ADD, 3, 5, 8);
        dueJoined("ADD", ADD, HIGHEST, 1, LOWEST);
        dueJoined("ADD", ADD, LOWEST, -1, HIGHEST);
        dueJoined("ADD", ADD, LOWEST, LOWEST, 0);
        dueJoined("ADD", ADD, HIGHEST, HIGHEST, -2);
    }

    private static void differencesWrap() {
        dueJoined("SUB", SUB, 3, 5, -2);
        dueJoined("SUB", SUB, LOWEST, 1, HIGHEST);
        dueJoined("SUB", SUB, HIGHEST, -1, LOWEST);
        dueJoined("SUB", SUB, 0, LOWEST, LOWEST);
        dueJoined("SUB", SUB, LOWEST, HIGHEST, 1);
    }

    private static void productsWrap() {
        dueJoined("MUL", MUL, -3, 5, -15);
        dueJoined("MUL", MUL, 65536, 65536, 0);
        dueJoined("MUL", MUL, 46341, 46341, -2147479015);
        dueJoined("MUL", MUL, LOWEST, -1, LOWEST);
        dueJoined("MUL", MUL, HIGHEST, HIGHEST, 1);
        dueJoined("MUL", MUL, HIGHEST, 2, -2);
    }

    /** A comparison made by a difference would go wrong where that wraps. */
    private static void lesserAndGreater() {
        int[][] ordered = {{-5, 3}, {-1, 0}, {0, 1}, {4, 4},
            {LOWEST, HIGHEST}, {LOWEST, LOWEST}, {LOWEST, 1}, {-2, HIGHEST}};
        for (int[] pair : ordered) {
            dueJoined("MIN", MIN, pair[0], pair[1], pair[0]);
            dueJoined("MIN", MIN, pair[1], pair[0], pair[0]);
            dueJoined("MAX", MAX, pair[0], pair[1], pair[1]);
            dueJoined("MAX", MAX, pair[1], pair[0], pair[1]);
        }
    }

    private static void halfRoundsDown() {
        int[][] halves = {{0, 0}, {1, 0}, {2, 1}, {3, 1}, {-1, -1}, {-2, -1}, {-3, -2}, {-7, -4},
            {HIGHEST, 1073741823}, {LOWEST, -1073741824}, {LOWEST + 1, -1073741824}};
        for (int[] half : halves) {
            PictureStages p = onSlope(half[0], 0, 0, SOURCE, HERE, HALF, 0);
            due("HALF of " + half[0], p.value(0, 0, 0), half[1]);
        }
    }

    private static void lessOfEqualOnes() {
        dueJoined("LESS", LESS, 3, 5, 1);
        dueJoined("LESS", LESS, 5, 3, 0);
        dueJoined("LESS", LESS, 5, 5, 0);
        dueJoined("LESS", LESS, -1, 0, 1);
        dueJoined("LESS", LESS, LOWEST, HIGHEST, 1);
        dueJoined("LESS", LESS, HIGHEST, LOWEST, 0);
        dueJoined("LESS", LESS, LOWEST, LOWEST, 0);
    }

    private static void pickAtNought() {
        int[][] picks = {{1, 20}, {2, 20}, {HIGHEST, 20}, {0, 30}, {-1, 30}, {LOWEST, 30}};
        for (int[] pick : picks) {
            PictureStages p = onSlope(pick[0], 0, 0, SOURCE, HERE, NUMBER, 20, NUMBER, 30, PICK, 0);
            due("PICK by " + pick[0], p.value(0, 0, 0), pick[1]);
        }
    }

    /** Three stages with ways of their own, and two formulas on the draft, one of them of the last stage. */
    private static PictureStages busy() {
        PictureStages p = onSlope(3, 5, -7, SOURCE, HERE, COLUMN, 0, ADD, 0);
        p.put(2, 2, 1000);
        made(p, STAGE, 8, HALF, 0);
        made(p, STAGE, 9 + 2, ROW, 0, STAGE, 1, PICK, 0);
        for (int k = 0; k < 3; k++) {
            p.way(k, k + 1);
        }
        draft(p, STAGE, 18 + HERE, NUMBER, 7);
        return p;
    }

    private static PictureStages busyWith(Consumer<PictureStages> drafting) {
        PictureStages p = busy();
        p.clearDraft();
        drafting.accept(p);
        return p;
    }

    private static PictureStages fullOfTokens() {
        return busyWith(p -> fullDraft(p, STAGE, 9));
    }

    private static PictureStages fullOfFormulas() {
        return busyWith(p -> draft(p, COLUMN, 0, NUMBER, 5, SOURCE, 2, STAGE, 20, ROW, 0, NUMBER, -8));
    }

    private static PictureStages fullOfBoth() {
        return busyWith(p -> {
            draft(p, COLUMN, 0, NUMBER, 5, SOURCE, 2, STAGE, 20, ROW, 0, NUMBER, -8);
            draftTimes(p, 8, HALF, 0);
        });
    }

    private static PictureStages fullOfStages() {
        return busyWith(p -> {
            made(p, STAGE, 18 + 5);
            made(p, STAGE, 27 + 5, STAGE, 3, SUB, 0);
            draft(p, STAGE, 9);
        });
    }

    private static PictureStages withoutStages() {
        PictureStages p = new PictureStages();
        p.slope(1, 2, 3);
        draft(p, NUMBER, 5);
        return p;
    }

    private static void dueRefused(Supplier<PictureStages> maker, String call,
        ToIntFunction<PictureStages> refused, int want) {
        due(call, refused.applyAsInt(maker.get()), want);
        due(call + " is not seen", Looks.alike(maker, refused::applyAsInt), 1);
    }

    private static void refusedPutAndApply() {
        for (int[] xy : outside(0, 7, 0, 5)) {
            dueRefused(TermTests::busy, "put" + at(xy), p -> p.put(xy[0], xy[1], 9), -1);
        }
        for (int k : missing(3)) {
            dueRefused(TermTests::busy, "apply(" + k + ")", p -> p.apply(k), -1);
        }
        dueRefused(TermTests::withoutStages, "apply without stages", p -> p.apply(0), -1);
    }

    private static void refusedToken() {
        int[][] wrong = {{-1, 0}, {13, 0}, {NUMBER, -100}, {NUMBER, 100},
            {SOURCE, -1}, {SOURCE, 9}, {STAGE, -1}, {STAGE, 27}};
        for (int[] t : wrong) {
            dueRefused(TermTests::busy, "token" + at(t), p -> p.token(t[0], t[1]), -1);
        }
        dueRefused(TermTests::fullOfTokens, "a joining token 15", p -> p.token(HALF, 0), -2);
        dueRefused(TermTests::fullOfTokens, "a plain token 15", p -> p.token(ROW, 0), -2);
        dueRefused(TermTests::busy, "PICK of two", p -> p.token(PICK, 0), -3);
        dueRefused(TermTests::withoutStages, "ADD of one", p -> p.token(ADD, 0), -3);
        dueRefused(PictureStages::new, "HALF of none", p -> p.token(HALF, 0), -3);
        dueRefused(TermTests::fullOfFormulas, "a seventh formula", p -> p.token(STAGE, 0), -4);
    }

    private static void refusedStageAndDrop() {
        dueRefused(TermTests::busy, "stage of two", p -> p.stage(), -1);
        dueRefused(TermTests::fullOfBoth, "stage of six", p -> p.stage(), -1);
        dueRefused(() -> withStages(2), "stage of none", p -> p.stage(), -1);
        dueRefused(TermTests::fullOfStages, "a sixth stage", p -> p.stage(), -2);
        dueRefused(TermTests::withoutStages, "drop none", p -> p.dropStage(), -1);
    }

    private static void refusedWay() {
        for (int k : missing(3)) {
            dueRefused(TermTests::busy, "way of " + k, p -> p.way(k, 0), -1);
        }
        for (int how : new int[] {-1, 4, LOWEST, HIGHEST}) {
            dueRefused(TermTests::busy, "how " + how, p -> p.way(1, how), -2);
        }
    }

    private static void waysAreNotSeen() {
        for (int how = 0; how < 4; how++) {
            int chosen = how;
            for (int k = 0; k < 5; k++) {
                int one = k;
                Consumer<PictureStages> deed = p -> p.way(one, chosen);
                due("stage " + k + " in way " + how, Looks.alikeButWays(TermTests::fullOfStages, deed), 1);
            }
            Consumer<PictureStages> deed = p -> {
                for (int k = 0; k < 5; k++) {
                    p.way(k, (chosen + k) % 4);
                }
            };
            due("ways from " + how, Looks.alikeButWays(TermTests::fullOfStages, deed), 1);
        }
        due("the way of one stage in that of others",
            Looks.alike(TermTests::fullOfStages, p -> p.way(2, 3)), 1);
    }

    private static void firstWay() {
        PictureStages p = withStages(5);
        for (int k = 0; k < 5; k++) {
            due("way of new stage " + k, p.way(k, 3), 0);
        }
        p.dropStage();
        made(p, NUMBER, 8);
        due("way of a stage made in place of another", p.way(4, 1), 0);
    }

    private static void orderInToken() {
        PictureStages tokens = fullOfTokens();
        due("wrong kind, 14 tokens", tokens.token(13, 0), -1);
        due("kind below 0, 14 tokens", tokens.token(-1, 0), -1);
        due("wrong NUMBER, 14 tokens", tokens.token(NUMBER, 100), -1);
        due("wrong SOURCE, 14 tokens", tokens.token(SOURCE, 9), -1);
        due("wrong STAGE, 14 tokens", tokens.token(STAGE, 27), -1);
        due("14 tokens, too few formulas", tokens.token(ADD, 0), -2);
        PictureStages both = fullOfBoth();
        due("wrong SOURCE, 14 tokens, six formulas", both.token(SOURCE, -1), -1);
        due("14 tokens, six formulas", both.token(NUMBER, 0), -2);
        PictureStages formulas = fullOfFormulas();
        due("wrong kind, six formulas", formulas.token(13, 0), -1);
        due("wrong NUMBER, six formulas", formulas.token(NUMBER, -100), -1);
        due("wrong SOURCE, six formulas", formulas.token(SOURCE, 9), -1);
        due("wrong STAGE, six formulas", formulas.token(STAGE, -1), -1);
        due("wrong kind, no formulas", new PictureStages().token(13, 0), -1);
    }

    private static void orderInStageAndWay() {
        PictureStages p = fullOfStages();
        draft(p, NUMBER, 1);
        due("two formulas, 5 stages", p.stage(), -1);
        p.clearDraft();
        due("no formula, 5 stages", p.stage(), -1);
        due("no stage, wrong how", p.way(5, 4), -1);
        due("no stage, how below 0", p.way(-1, -1), -1);
    }

    private static void askAll(PictureStages p, int k) {
        p.stages();
        p.source(k, k);
        p.value(k, -4, 9);
        p.value(k, k, k);
        p.total(k);
        p.peak(k);
        p.atLeast(k, k);
        p.differ(k, 0);
        p.differ(0, k);
        p.changed(k);
    }

    private static void questions() {
        Consumer<PictureStages> all = p -> {
            for (int k : new int[] {-1, 0, 1, 2, 3, 4, 5, LOWEST, HIGHEST}) {
                askAll(p, k);
            }
        };
        due("asked of a new object", Looks.alike(PictureStages::new, all), 1);
        due("asked without stages", Looks.alike(TermTests::withoutStages, all), 1);
        due("asked with a draft", Looks.alike(TermTests::busy, all), 1);
        due("asked with a full draft", Looks.alike(TermTests::fullOfBoth, all), 1);
        due("asked with five stages", Looks.alike(TermTests::fullOfStages, all), 1);
    }

    private static void orderOfCells() {
        PictureStages p = onSlope(0, 0, 0, SOURCE, HERE);
        // In the order of x, then y, the second of these would come first.
        p.put(6, 1, 5);
        p.put(2, 4, 5);
        due("peak", p.peak(0), 14);
        made(p, COLUMN, 0, ROW, 0, ADD, 0, NUMBER, 0, MAX, 0, NUMBER, 1, ADD, 0);
        due("cells are within the edges", p.atLeast(1, LOWEST), 48);
        due("and all of them", p.atLeast(1, 13), 1);
    }

    private static void dueNoStage(String when, PictureStages p, int k) {
        String name = when + ", stage " + k + ": ";
        due(name + "value", p.value(k, 0, 0), -1);
        due(name + "total", p.total(k), -1);
        due(name + "peak", p.peak(k), -1);
        due(name + "atLeast", p.atLeast(k, 0), -1);
        due(name + "differ from 0", p.differ(k, 0), -1);
        due(name + "0 differs from it", p.differ(0, k), -1);
        due(name + "differ from itself", p.differ(k, k), -1);
        due(name + "changed", p.changed(k), -1);
    }

    private static void noStage() {
        for (int count = 0; count <= 5; count++) {
            PictureStages p = withStages(count);
            for (int k : missing(count)) {
                dueNoStage(count + " stages", p, k);
            }
        }
        PictureStages p = withStages(5);
        for (int k = 4; k >= 0; k--) {
            p.dropStage();
            dueNoStage("after a drop", p, k);
        }
        draft(p, NUMBER, 1);
        dueNoStage("a draft is no stage", p, 0);
    }

    private static void theSource() {
        sentence("An object is used for at most 512 calls", TermTests::callNumber512);
        sentence("The SOURCE is a picture of 8 columns and 6 rows, each cell a number", TermTests::cellsOfTheSource);
        sentence("Beyond its edges it goes on as its nearest cell", TermTests::sourceBeyondItsEdges);
        sentence("the source at any (x, y) is that at (x', y')", TermTests::sourceFarBeyondItsEdges);
    }

    private static void theTokens() {
        sentence("STAGES are numbered 0, 1, 2, ..; there are at most 5", TermTests::fiveStages);
        sentence("a number f(k, x, y) for all whole numbers x and y", TermTests::stagesBeyondTheEdges);
        sentence("a stack of at most 6 formulas", TermTests::sixFormulas);
        sentence("takes at most 14 tokens", TermTests::fourteenTokens);
        sentence("the last one named being the top", TermTests::topOfTheDraft);
        sentence("NUMBER a: a (-99 to 99)", TermTests::numberRange);
        sentence("COLUMN: x; ROW: y", TermTests::columnAndRow);
        sentence("SOURCE a: a from 0 to 8", TermTests::sourceRange);
        sentence("STAGE a: k being the number of a stage that there is", TermTests::stageRange);
        sentence("STAGE a: a stage that there is no more", TermTests::stageThatThereIsNoMore);
        sentence("STAGE a: k = a / 9 (rounded down), b = a % 9 (the rest)", TermTests::stageAndNeighbour);
        sentence("MIN: the lesser of F and G; MAX: the greater one", TermTests::lesserAndGreater);
        sentence("HALF: F divided by 2, rounded down", TermTests::halfRoundsDown);
        sentence("LESS: 1 if F is less than G, else 0", TermTests::lessOfEqualOnes);
        sentence("PICK: G if F is above 0, else H", TermTests::pickAtNought);
        sentence("Sums wrap as those of ints do", TermTests::sumsWrap);
        sentence("Differences wrap as those of ints do", TermTests::differencesWrap);
        sentence("Products wrap as those of ints do", TermTests::productsWrap);
    }

    private static void theCalls() {
        sentence("Each stage has a WAY, 0 to 3, 0 at first", TermTests::firstWay);
        sentence("it changes no answer but that of way", TermTests::waysAreNotSeen);
        sentence("A refused put or apply changes nothing", TermTests::refusedPutAndApply);
        sentence("A refused token changes nothing", TermTests::refusedToken);
        sentence("A refused stage or dropStage changes nothing", TermTests::refusedStageAndDrop);
        sentence("A refused way changes nothing", TermTests::refusedWay);
        sentence("The tests of token are made in the order in which they are named", TermTests::orderInToken);
        sentence("The tests of stage and way are made in that order too", TermTests::orderInStageAndWay);
        sentence("questions; they change nothing", TermTests::questions);
        sentence("CELLS are .., in the order of y, then x", TermTests::orderOfCells);
        sentence("If there is no stage k (or l): -1", TermTests::noStage);
    }

    public static void main(String[] args) {
        theSource();
        theTokens();
        theCalls();
        end();
    }
}
