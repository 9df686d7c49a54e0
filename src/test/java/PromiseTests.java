/** For each promise of the document: ordinary inputs, its edges, wrong inputs. */
public final class PromiseTests {
    private static final int NUMBER = 0;
    private static final int COLUMN = 1;
    private static final int ROW = 2;
    private static final int SOURCE = 3;
    private static final int STAGE = 4;
    private static final int ADD = 5;
    private static final int SUB = 6;
    private static final int MUL = 7;
    private static final int MIN = 8;
    private static final int MAX = 9;
    private static final int HALF = 10;
    private static final int LESS = 11;
    private static final int PICK = 12;
    private static final int HERE = 4;
    private static final int LOWEST = Integer.MIN_VALUE;
    private static final int HIGHEST = Integer.MAX_VALUE;

    private static final Answers ANSWERS = new Answers();

    private static void due(String call, long got, long want) {
        ANSWERS.due(call, got, want);
    }

    /** Puts tokens, given as kind, a, kind, a, .., on the draft; none may be refused. */
    private static void draft(PictureStages p, int... tokens) {
        for (int i = 0; i < tokens.length; i += 2) {
            int got = p.token(tokens[i], tokens[i + 1]);
            if (got < 1) {
                due("draft: token(" + tokens[i] + ", " + tokens[i + 1] + ")", got, 1);
            }
        }
    }

    /** Makes a stage of the tokens and answers its number. */
    private static int made(PictureStages p, int... tokens) {
        draft(p, tokens);
        return p.stage();
    }

    /** Formulas reach numbers that no NUMBER token can name through the source. */
    private static PictureStages withCells(int atZero, int atOne) {
        PictureStages p = new PictureStages();
        p.put(0, 0, atZero);
        p.put(1, 0, atOne);
        return p;
    }

    private static void dueSource(String when, PictureStages p, int base, int dx, int dy) {
        for (int y = 0; y < 6; y++) {
            for (int x = 0; x < 8; x++) {
                due(when + ": source(" + x + ", " + y + ")", p.source(x, y), base + dx * x + dy * y);
            }
        }
    }

    // Promise 1
    private static void newObject() {
        PictureStages p = new PictureStages();
        dueSource("new", p, 0, 0, 0);
        due("new: stages", p.stages(), 0);
        due("new: clearDraft", p.clearDraft(), 0);
        due("new: stage", p.stage(), -1);
        due("new: dropStage", p.dropStage(), -1);
        PictureStages other = new PictureStages();
        other.put(0, 0, 5);
        draft(other, NUMBER, 1);
        due("objects are apart: source", p.source(0, 0), 0);
        due("objects are apart: draft", p.clearDraft(), 0);
    }

    // Promise 2
    private static void put() {
        PictureStages p = new PictureStages();
        p.slope(100, 1, 10);
        int[][] outside = {{-1, 0}, {8, 0}, {0, -1}, {0, 6}, {8, 6}, {LOWEST, 0}, {HIGHEST, 0}, {0, LOWEST}, {0, HIGHEST}};
        for (int[] at : outside) {
            due("put outside (" + at[0] + ", " + at[1] + ")", p.put(at[0], at[1], 7), -1);
        }
        dueSource("put outside", p, 100, 1, 10);
        due("put first", p.put(0, 0, LOWEST), 1);
        due("put last", p.put(7, 5, HIGHEST), 1);
        due("put inside", p.put(6, 2, -3), 1);
        due("put the same", p.put(6, 2, -3), 1);
        due("put: first", p.source(0, 0), LOWEST);
        due("put: last", p.source(7, 5), HIGHEST);
        due("put: inside", p.source(6, 2), -3);
        due("put: neighbour", p.source(2, 5), 152);
        p.put(0, 0, 100);
        p.put(7, 5, 157);
        p.put(6, 2, 126);
        dueSource("put back", p, 100, 1, 10);
    }

    // Promise 3
    private static void slope() {
        PictureStages p = new PictureStages();
        p.put(3, 3, 9);
        p.slope(5, 2, -30);
        dueSource("slope", p, 5, 2, -30);
        p.slope(HIGHEST, HIGHEST, LOWEST);
        dueSource("slope wraps", p, HIGHEST, HIGHEST, LOWEST);
        due("slope wraps at (1, 0)", p.source(1, 0), -2);
        due("slope wraps at (0, 1)", p.source(0, 1), -1);
        p.slope(0, 0, 0);
        dueSource("slope 0", p, 0, 0, 0);
    }

    // Promise 4
    private static void apply() {
        PictureStages p = new PictureStages();
        due("apply without stages", p.apply(0), -1);
        p.slope(0, 1, 10);
        int left = made(p, SOURCE, 1);
        due("apply a missing stage", p.apply(1), -1);
        due("apply stage -1", p.apply(-1), -1);
        dueSource("refused apply", p, 0, 1, 10);
        // The first column is its own left neighbour beyond the edge.
        due("apply left", p.apply(left), 42);
        for (int x = 0; x < 8; x++) {
            due("apply left: x " + x, p.source(x, 2), 20 + (x == 0 ? 0 : x - 1));
        }
        due("apply left again", p.apply(left), 36);
        int here = made(p, SOURCE, HERE);
        due("apply here", p.apply(here), 0);
        int ofLeft = made(p, STAGE, 9 * left + HERE);
        p.slope(0, 1, 10);
        due("apply a stage of a stage", p.apply(ofLeft), 42);
        due("apply a stage of a stage: source", p.source(7, 5), 56);
        due("apply keeps the stages", p.stages(), 3);
        draft(p, NUMBER, 1, NUMBER, 2);
        p.apply(left);
        due("apply keeps the draft", p.clearDraft(), 2);
        due("apply stage 5", p.apply(5), -1);
        // The cell to the right is worked out from the old number, not the new one.
        PictureStages q = new PictureStages();
        q.put(0, 0, 1);
        made(q, SOURCE, 1, NUMBER, 1, ADD, 0);
        due("apply from old numbers", q.apply(0), 48);
        due("apply from old numbers: (0, 0)", q.source(0, 0), 2);
        due("apply from old numbers: (1, 0)", q.source(1, 0), 2);
        due("apply from old numbers: (2, 0)", q.source(2, 0), 1);
    }

    // Promise 5
    private static void tokenRanges() {
        PictureStages p = new PictureStages();
        int[][] wrong = {{-1, 0}, {13, 0}, {LOWEST, 0}, {HIGHEST, 0},
            {NUMBER, -100}, {NUMBER, 100}, {NUMBER, LOWEST}, {NUMBER, HIGHEST},
            {SOURCE, -1}, {SOURCE, 9}, {SOURCE, LOWEST}, {SOURCE, HIGHEST},
            {STAGE, 0}, {STAGE, -1}, {STAGE, -8}, {STAGE, 8}, {STAGE, LOWEST}, {STAGE, HIGHEST}};
        for (int[] t : wrong) {
            due("token(" + t[0] + ", " + t[1] + ")", p.token(t[0], t[1]), -1);
        }
        due("wrong tokens leave the draft", p.clearDraft(), 0);
        due("NUMBER -99", p.token(NUMBER, -99), 1);
        due("NUMBER 99", p.token(NUMBER, 99), 2);
        due("SOURCE 0", p.token(SOURCE, 0), 3);
        due("SOURCE 8", p.token(SOURCE, 8), 4);
        due("COLUMN any", p.token(COLUMN, HIGHEST), 5);
        due("ROW any", p.token(ROW, LOWEST), 6);
        int[] joining = {ADD, SUB, MUL, MIN, MAX};
        for (int i = 0; i < joining.length; i++) {
            due("kind " + joining[i] + " any", p.token(joining[i], LOWEST + i), 5 - i);
        }
        due("HALF any", p.token(HALF, -1), 1);
        due("stage", p.stage(), 0);
        due("STAGE 0", p.token(STAGE, 0), 1);
        due("STAGE 8", p.token(STAGE, 8), 2);
        due("STAGE 9", p.token(STAGE, 9), -1);
        due("STAGE -1", p.token(STAGE, -1), -1);
        due("LESS any", p.token(LESS, 1000), 1);
        draft(p, NUMBER, 1, NUMBER, 2);
        due("PICK any", p.token(PICK, -1000), 1);
    }

    private static void tokenLimits() {
        PictureStages p = new PictureStages();
        due("HALF of none", p.token(HALF, 0), -3);
        for (int kind = ADD; kind <= PICK; kind++) {
            due("kind " + kind + " of none", p.token(kind, 0), -3);
        }
        draft(p, NUMBER, 1);
        for (int kind = ADD; kind <= PICK; kind++) {
            if (kind != HALF) {
                due("kind " + kind + " of one", p.token(kind, 0), -3);
            }
        }
        draft(p, NUMBER, 1);
        due("PICK of two", p.token(PICK, 0), -3);
        draft(p, NUMBER, 1, NUMBER, 1, NUMBER, 1, NUMBER, 1);
        due("NUMBER as seventh", p.token(NUMBER, 0), -4);
        due("COLUMN as seventh", p.token(COLUMN, 0), -4);
        due("ROW as seventh", p.token(ROW, 0), -4);
        due("SOURCE as seventh", p.token(SOURCE, 0), -4);
        due("wrong NUMBER as seventh", p.token(NUMBER, 100), -1);
        due("wrong STAGE as seventh", p.token(STAGE, 0), -1);
        due("HALF of six", p.token(HALF, 0), 6);
        due("PICK of six", p.token(PICK, 0), 4);
        due("ADD of four", p.token(ADD, 0), 3);
        due("NUMBER after three", p.token(NUMBER, 0), 4);
        draft(p, NUMBER, 0, NUMBER, 0);
        // Six, HALF, PICK, ADD and three more are 12; refused ones don't count.
        due("token 13", p.token(HALF, 0), 6);
        due("token 14", p.token(HALF, 0), 6);
        due("token 15", p.token(HALF, 0), -2);
        due("token 15, a seventh formula", p.token(NUMBER, 0), -2);
        due("token 15, wrong kind", p.token(13, 0), -1);
        due("token 15, wrong a", p.token(SOURCE, 9), -1);
        due("full draft", p.clearDraft(), 6);
        draft(p, NUMBER, 1);
        for (int i = 0; i < 13; i++) {
            draft(p, HALF, 0);
        }
        due("token 15, too few formulas", p.token(ADD, 0), -2);
        due("14 tokens make a stage", p.stage(), 0);
        due("STAGE as seventh", stageAsSeventh(p), -4);
    }

    private static int stageAsSeventh(PictureStages p) {
        for (int i = 0; i < 6; i++) {
            draft(p, STAGE, i);
        }
        return p.token(STAGE, 6);
    }

    // Promise 6
    private static void clearDraft() {
        PictureStages p = new PictureStages();
        due("clear an empty draft", p.clearDraft(), 0);
        draft(p, NUMBER, 1, NUMBER, 2, NUMBER, 3, ADD, 0);
        due("clear", p.clearDraft(), 2);
        due("clear again", p.clearDraft(), 0);
        for (int round = 0; round < 3; round++) {
            draft(p, COLUMN, 0);
            for (int i = 0; i < 13; i++) {
                draft(p, HALF, 0);
            }
            due("full draft", p.token(HALF, 0), -2);
            due("clear a full draft", p.clearDraft(), 1);
        }
        due("nothing is left to join", p.token(HALF, 0), -3);
        made(p, NUMBER, 7);
        draft(p, STAGE, 4);
        p.clearDraft();
        due("clear keeps the stages", p.stages(), 1);
        due("clear keeps the numbers", p.value(0, 0, 0), 7);
        draft(p, NUMBER, 8);
        due("stage after clear", p.stage(), 1);
        due("stage after clear: value", p.value(1, 0, 0), 8);
    }

    // Promise 7
    private static void stage() {
        PictureStages p = new PictureStages();
        due("stage of none", p.stage(), -1);
        draft(p, NUMBER, 3, NUMBER, 4);
        due("stage of two", p.stage(), -1);
        due("refused stage keeps the draft", p.token(SUB, 0), 1);
        due("stage 0", p.stage(), 0);
        due("the draft is empty then", p.clearDraft(), 0);
        due("value of stage 0", p.value(0, 0, 0), -1);
        for (int k = 1; k < 5; k++) {
            draft(p, NUMBER, k);
            for (int i = 0; i < 6; i++) {
                draft(p, NUMBER, 0, ADD, 0);
            }
            draft(p, HALF, 0);
            due("14 tokens again", p.token(HALF, 0), -2);
            due("stage " + k, p.stage(), k);
        }
        due("stage of none among 5", p.stage(), -1);
        draft(p, NUMBER, 9);
        due("a sixth stage", p.stage(), -2);
        due("stages", p.stages(), 5);
        draft(p, NUMBER, 9);
        due("two formulas among 5", p.stage(), -1);
        due("refused stages keep the draft", p.clearDraft(), 2);
        for (int k = 1; k < 5; k++) {
            due("value of stage " + k, p.value(k, 0, 0), k / 2);
        }
        draft(p, NUMBER, 9);
        p.dropStage();
        due("a fifth stage from the kept draft", p.stage(), 4);
        due("its value", p.value(4, 3, 3), 9);
    }

    // Promise 8
    private static void dropStage() {
        PictureStages p = new PictureStages();
        draft(p, NUMBER, 1);
        due("drop none", p.dropStage(), -1);
        due("refused drop keeps the draft", p.clearDraft(), 1);
        made(p, NUMBER, 10);
        made(p, NUMBER, 20);
        made(p, NUMBER, 30);
        draft(p, STAGE, 9 + 8, NUMBER, 1);
        due("drop 2", p.dropStage(), 2);
        due("a draft that speaks of stage 1 stays", p.token(ADD, 0), 1);
        due("it is gone", p.value(2, 0, 0), -1);
        draft(p, NUMBER, 2);
        due("drop 1", p.dropStage(), 1);
        due("a draft that has it as a part is emptied", p.clearDraft(), 0);
        for (int b = 0; b < 9; b++) {
            made(p, NUMBER, 40);
            draft(p, NUMBER, 1, STAGE, 9 + b, COLUMN, 0);
            due("drop 1 of neighbour " + b, p.dropStage(), 1);
            due("emptied", p.token(HALF, 0), -3);
        }
        draft(p, COLUMN, 0);
        for (int i = 0; i < 13; i++) {
            draft(p, HALF, 0);
        }
        due("a full draft that speaks of none stays", p.dropStage(), 0);
        due("and stays full", p.token(HALF, 0), -2);
        due("and has its formula", p.stage(), 0);
        draft(p, STAGE, 4);
        for (int i = 0; i < 13; i++) {
            draft(p, HALF, 0);
        }
        due("drop 0", p.dropStage(), 0);
        for (int i = 0; i < 6; i++) {
            draft(p, NUMBER, 1);
        }
        for (int i = 0; i < 8; i++) {
            due("an emptied draft takes 14 again", p.token(HALF, 0), 6);
        }
        due("and no more", p.token(HALF, 0), -2);
        due("drop none again", p.dropStage(), -1);
        p.clearDraft();
        // A token that has the dropped number in it but isn't STAGE speaks of no stage.
        made(p, NUMBER, 1);
        draft(p, NUMBER, 4, SOURCE, 4, COLUMN, 4);
        p.dropStage();
        due("other kinds speak of no stage", p.clearDraft(), 3);
    }

    // Promise 9
    private static void way() {
        PictureStages p = new PictureStages();
        due("way without stages", p.way(0, 0), -1);
        due("no stage comes before a wrong how", p.way(0, 9), -1);
        made(p, COLUMN, 0, SOURCE, 8, MUL, 0);
        made(p, STAGE, 0, STAGE, 8, SUB, 0);
        p.slope(3, 5, 7);
        due("way of -1", p.way(-1, 0), -1);
        due("way of 2", p.way(2, 0), -1);
        due("how -1", p.way(0, -1), -2);
        due("how 4", p.way(0, 4), -2);
        due("how lowest", p.way(0, LOWEST), -2);
        due("way at first", p.way(0, 3), 0);
        due("way of the other", p.way(1, 1), 0);
        due("way then", p.way(0, 2), 3);
        due("refused way", p.way(0, 4), -2);
        due("way kept", p.way(0, 2), 2);
        due("other kept", p.way(1, 1), 1);
        p.dropStage();
        made(p, STAGE, 0, STAGE, 8, SUB, 0);
        due("a new stage's way", p.way(1, 0), 0);
        due("the old stage's way", p.way(0, 0), 2);
        wayChangesNothing(p);
    }

    private static void wayChangesNothing(PictureStages p) {
        int total = p.total(1);
        int peak = p.peak(1);
        int far = p.value(1, -4, 9);
        for (int how = 0; how < 16; how++) {
            p.way(0, how % 4);
            p.way(1, how / 4);
            due("total with way " + how, p.total(1), total);
            due("peak with way " + how, p.peak(1), peak);
            due("value with way " + how, p.value(1, -4, 9), far);
            p.put(1, 1, how);
            due("value after put with way " + how, p.value(0, 0, 0), 0);
            due("value beside it with way " + how, p.value(0, 2, 0), 2 * p.source(3, 1));
            p.put(1, 1, 15);
        }
    }

    // Promise 10
    private static void stages() {
        PictureStages p = new PictureStages();
        due("stages of a new object", p.stages(), 0);
        for (int k = 0; k < 5; k++) {
            made(p, NUMBER, k);
            due("stages", p.stages(), k + 1);
        }
        draft(p, NUMBER, 1);
        p.stage();
        due("stages after a refused one", p.stages(), 5);
        for (int k = 4; k >= 0; k--) {
            p.dropStage();
            due("stages after a drop", p.stages(), k);
        }
        p.dropStage();
        due("stages after a refused drop", p.stages(), 0);
    }

    // Promise 11
    private static void source() {
        PictureStages p = new PictureStages();
        p.slope(1000, 1, 10);
        dueSource("source", p, 1000, 1, 10);
        int[][] outside = {{-1, 0}, {8, 0}, {0, -1}, {0, 6}, {-1, 1}, {8, 5}, {7, 6},
            {LOWEST, 0}, {HIGHEST, 0}, {0, LOWEST}, {0, HIGHEST}};
        for (int[] at : outside) {
            due("source outside (" + at[0] + ", " + at[1] + ")", p.source(at[0], at[1]), 0);
        }
    }

    // Promise 12
    private static void valueEdges() {
        PictureStages p = new PictureStages();
        due("value without stages", p.value(0, 0, 0), -1);
        due("no stage comes before a far cell", p.value(0, 99, 99), -1);
        made(p, COLUMN, 0, NUMBER, 50, MUL, 0, ROW, 0, ADD, 0);
        for (int y = -4; y <= 9; y++) {
            for (int x = -4; x <= 11; x++) {
                due("value(0, " + x + ", " + y + ")", p.value(0, x, y), 50 * x + y);
            }
        }
        int[][] outside = {{-5, 1}, {12, 1}, {1, -5}, {1, 10}, {LOWEST, 1}, {HIGHEST, 1}, {1, LOWEST}, {1, HIGHEST}};
        for (int[] at : outside) {
            due("value far at (" + at[0] + ", " + at[1] + ")", p.value(0, at[0], at[1]), 0);
        }
        int[] missing = {-1, 1, 5, LOWEST, HIGHEST};
        for (int k : missing) {
            due("value of stage " + k, p.value(k, 0, 0), -1);
            due("value of stage " + k + " far off", p.value(k, 50, 0), -1);
        }
    }

    private static void valueOfSource() {
        PictureStages p = new PictureStages();
        p.slope(0, 1, 10);
        for (int a = 0; a < 9; a++) {
            made(p, SOURCE, a);
            for (int y = -4; y <= 9; y += 2) {
                for (int x = -4; x <= 11; x += 3) {
                    int nearX = Math.min(Math.max(x + a / 3 - 1, 0), 7);
                    int nearY = Math.min(Math.max(y + a % 3 - 1, 0), 5);
                    due("SOURCE " + a + " at (" + x + ", " + y + ")", p.value(0, x, y), nearX + 10 * nearY);
                }
            }
            p = new PictureStages();
            p.slope(0, 1, 10);
        }
    }

    /** Beyond the edges a stage is what its formula gives there, not its nearest cell. */
    private static void valueOfStages() {
        PictureStages p = new PictureStages();
        made(p, COLUMN, 0, NUMBER, 50, MUL, 0, ROW, 0, ADD, 0);
        for (int k = 1; k < 5; k++) {
            made(p, STAGE, 9 * (k - 1));
        }
        for (int k = 0; k < 5; k++) {
            due("stage " + k + " at (-4, -4)", p.value(k, -4, -4), 50 * (-4 - k) - 4 - k);
            due("stage " + k + " at (11, 9)", p.value(k, 11, 9), 50 * (11 - k) + 9 - k);
        }
        while (p.stages() > 1) {
            p.dropStage();
        }
        for (int k = 1; k < 5; k++) {
            made(p, STAGE, 9 * (k - 1) + 8);
        }
        due("the far corner of stage 4", p.value(4, 11, 9), 50 * 15 + 13);
        due("the near corner of stage 4", p.value(4, -4, -4), 0);
        p.dropStage();
        made(p, STAGE, 5, STAGE, 9 + 1, SUB, 0, STAGE, 18 + 6, ADD, 0);
        int ofFirst = 50 * 2 + 4;
        int ofSecond = 50 * 2 + 4;
        int ofThird = 50 * 5 + 4;
        due("a stage of several", p.value(4, 2, 3), ofFirst - ofSecond + ofThird);
    }

    private static void dueJoined(String name, int kind, int f, int g, int want) {
        PictureStages p = withCells(f, g);
        made(p, SOURCE, HERE, SOURCE, 7, kind, 0);
        due(name + " of " + f + " and " + g, p.value(0, 0, 0), want);
    }

    private static void valueOfTokens() {
        dueJoined("ADD", ADD, 3, 5, 8);
        dueJoined("ADD", ADD, HIGHEST, 1, LOWEST);
        dueJoined("SUB", SUB, 3, 5, -2);
        dueJoined("SUB", SUB, LOWEST, 1, HIGHEST);
        dueJoined("MUL", MUL, -3, 5, -15);
        dueJoined("MUL", MUL, 65536, 65536, 0);
        dueJoined("MUL", MUL, LOWEST, -1, LOWEST);
        dueJoined("MIN", MIN, 3, -5, -5);
        dueJoined("MIN", MIN, LOWEST, HIGHEST, LOWEST);
        dueJoined("MAX", MAX, 3, -5, 3);
        dueJoined("MAX", MAX, LOWEST, HIGHEST, HIGHEST);
        dueJoined("LESS", LESS, 3, 5, 1);
        dueJoined("LESS", LESS, 5, 3, 0);
        dueJoined("LESS", LESS, 5, 5, 0);
        dueJoined("LESS", LESS, LOWEST, HIGHEST, 1);
        dueJoined("LESS", LESS, HIGHEST, LOWEST, 0);
        int[][] halves = {{0, 0}, {1, 0}, {2, 1}, {7, 3}, {-1, -1}, {-2, -1}, {-7, -4},
            {LOWEST, LOWEST / 2}, {HIGHEST, HIGHEST / 2}};
        for (int[] half : halves) {
            PictureStages p = withCells(half[0], 0);
            made(p, SOURCE, HERE, HALF, 0);
            due("HALF of " + half[0], p.value(0, 0, 0), half[1]);
        }
        int[][] picks = {{1, 20}, {HIGHEST, 20}, {0, 30}, {-1, 30}, {LOWEST, 30}};
        for (int[] pick : picks) {
            PictureStages p = withCells(pick[0], 0);
            made(p, SOURCE, HERE, NUMBER, 20, NUMBER, 30, PICK, 0);
            due("PICK by " + pick[0], p.value(0, 0, 0), pick[1]);
        }
        PictureStages p = new PictureStages();
        made(p, NUMBER, -99, NUMBER, 1, NUMBER, 2, NUMBER, 3, NUMBER, 4, NUMBER, 5,
            SUB, 0, SUB, 0, SUB, 0, SUB, 0, SUB, 0);
        due("a stack of six", p.value(0, 0, 0), -99 - (1 - (2 - (3 - (4 - 5)))));
    }

    private static void valueFollowsTheSource() {
        PictureStages p = new PictureStages();
        made(p, SOURCE, HERE, NUMBER, 1, ADD, 0);
        made(p, STAGE, 7);
        due("before put", p.value(1, 2, 2), 1);
        p.put(3, 2, 40);
        due("after put", p.value(1, 2, 2), 41);
        p.slope(7, 0, 0);
        due("after slope", p.value(1, 2, 2), 8);
        p.apply(1);
        due("after apply", p.value(1, 2, 2), 9);
        p.dropStage();
        made(p, NUMBER, 5);
        due("after another stage took its number", p.value(1, 2, 2), 5);
    }

    // Promise 13
    private static void total() {
        PictureStages p = new PictureStages();
        due("total without stages", p.total(0), -1);
        p.slope(0, 1, 10);
        made(p, SOURCE, HERE);
        due("total", p.total(0), 6 * 28 + 8 * 150);
        p.slope(HIGHEST, 0, 0);
        due("total wraps", p.total(0), -48);
        p.slope(0, 0, 0);
        p.put(7, 5, 3);
        due("total has the last cell", p.total(0), 3);
        p.put(0, 0, 4);
        due("total has the first cell", p.total(0), 7);
        made(p, COLUMN, 0, ROW, 0, MUL, 0);
        due("total of another stage", p.total(1), 28 * 15);
        due("total of -1", p.total(-1), -1);
        due("total of 2", p.total(2), -1);
        due("total of highest", p.total(HIGHEST), -1);
    }

    // Promise 14
    private static void peak() {
        PictureStages p = new PictureStages();
        due("peak without stages", p.peak(0), -1);
        made(p, SOURCE, HERE);
        due("peak of all the same", p.peak(0), 0);
        p.slope(0, 1, 10);
        due("peak in the last cell", p.peak(0), 47);
        p.slope(0, -1, 10);
        due("peak in the last row's first cell", p.peak(0), 40);
        p.slope(0, 1, -10);
        due("peak in the first row's last cell", p.peak(0), 7);
        p.slope(LOWEST, 0, 0);
        due("peak of the lowest", p.peak(0), 0);
        p.put(5, 2, -7);
        p.put(2, 3, -7);
        due("the first of two", p.peak(0), 21);
        p.put(6, 1, HIGHEST);
        due("the highest", p.peak(0), 14);
        made(p, ROW, 0);
        due("peak of another stage", p.peak(1), 40);
        due("peak of -1", p.peak(-1), -1);
        due("peak of 2", p.peak(2), -1);
        due("peak of lowest", p.peak(LOWEST), -1);
    }

    // Promise 15
    private static void atLeast() {
        PictureStages p = new PictureStages();
        due("atLeast without stages", p.atLeast(0, 0), -1);
        made(p, COLUMN, 0);
        due("at least 0", p.atLeast(0, 0), 48);
        due("at least 1", p.atLeast(0, 1), 42);
        due("at least 7", p.atLeast(0, 7), 6);
        due("at least 8", p.atLeast(0, 8), 0);
        due("at least the lowest", p.atLeast(0, LOWEST), 48);
        due("at least the highest", p.atLeast(0, HIGHEST), 0);
        made(p, SOURCE, HERE);
        p.slope(LOWEST, 0, 0);
        p.put(7, 5, HIGHEST);
        p.put(0, 0, HIGHEST);
        due("two at least the highest", p.atLeast(1, HIGHEST), 2);
        due("all at least the lowest", p.atLeast(1, LOWEST), 48);
        due("two above the lowest", p.atLeast(1, LOWEST + 1), 2);
        due("atLeast of -1", p.atLeast(-1, 0), -1);
        due("atLeast of 2", p.atLeast(2, 0), -1);
    }

    // Promise 16
    private static void differ() {
        PictureStages p = new PictureStages();
        due("differ without stages", p.differ(0, 0), -1);
        made(p, COLUMN, 0);
        due("differ from itself", p.differ(0, 0), 0);
        due("differ from a missing one", p.differ(0, 1), -1);
        due("a missing one differs", p.differ(1, 0), -1);
        due("differ -1 first", p.differ(-1, 0), -1);
        due("differ -1 second", p.differ(0, -1), -1);
        made(p, ROW, 0);
        due("column and row", p.differ(0, 1), 42);
        due("row and column", p.differ(1, 0), 42);
        p.slope(0, 1, 0);
        made(p, SOURCE, HERE);
        due("the same inside the edges", p.differ(0, 2), 0);
        p.put(7, 5, 9);
        due("other in the last cell", p.differ(2, 0), 1);
        p.put(0, 0, 9);
        due("other in the first cell too", p.differ(0, 2), 2);
        due("differ both missing", p.differ(3, 4), -1);
    }

    // Promise 17
    private static void changed() {
        PictureStages p = new PictureStages();
        due("changed without stages", p.changed(0), -1);
        p.slope(0, 1, 10);
        made(p, SOURCE, HERE);
        made(p, SOURCE, 1);
        due("nothing changed", p.changed(0), 0);
        due("all but the first column", p.changed(1), 42);
        due("changed changes nothing", p.changed(1), 42);
        dueSource("changed", p, 0, 1, 10);
        made(p, COLUMN, 0);
        due("all but the first row", p.changed(2), 40);
        p.put(7, 0, 8);
        due("and the put one", p.changed(2), 41);
        p.put(7, 5, 7);
        due("and not the last one", p.changed(2), 40);
        p.put(0, 0, 5);
        due("and the first one", p.changed(2), 41);
        due("changed of -1", p.changed(-1), -1);
        due("changed of 3", p.changed(3), -1);
        due("changed of 5", p.changed(5), -1);
    }

    public static void main(String[] args) {
        newObject();
        put();
        slope();
        apply();
        tokenRanges();
        tokenLimits();
        clearDraft();
        stage();
        dropStage();
        way();
        stages();
        source();
        valueEdges();
        valueOfSource();
        valueOfStages();
        valueOfTokens();
        valueFollowsTheSource();
        total();
        peak();
        atLeast();
        differ();
        changed();
        ANSWERS.end();
    }
}
