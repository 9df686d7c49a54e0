/** A test for each sentence of the promises: ordinary inputs, its edges, wrong inputs. */
public final class PromiseTests extends Checks {

    // Promise 1

    private static void newSource() {
        PictureStages p = new PictureStages();
        dueSource("new", p, 0, 0, 0);
        made(p, SOURCE, HERE);
        due("beyond the edges", p.value(0, -4, 9), 0);
        PictureStages other = new PictureStages();
        other.put(0, 0, 5);
        due("another object's source", p.source(0, 0), 0);
    }

    private static void newStages() {
        PictureStages p = new PictureStages();
        due("stages", p.stages(), 0);
        due("dropStage", p.dropStage(), -1);
        due("total", p.total(0), -1);
        made(p, NUMBER, 1);
        due("another object's stages", new PictureStages().stages(), 0);
    }

    private static void newDraft() {
        PictureStages p = new PictureStages();
        due("stage", p.stage(), -1);
        due("HALF", p.token(HALF, 0), -3);
        due("clearDraft", p.clearDraft(), 0);
        dueRoomFor14(new PictureStages());
    }

    /** Its draft is empty and takes 14 tokens, no fewer and no more. */
    private static void dueRoomFor14(PictureStages p) {
        due("nothing to halve", p.token(HALF, 0), -3);
        due("token 1", p.token(NUMBER, 1), 1);
        for (int i = 2; i <= 14; i++) {
            due("token " + i, p.token(HALF, 0), 1);
        }
        due("token 15", p.token(HALF, 0), -2);
    }

    // Promise 2

    private static void putSets() {
        PictureStages p = new PictureStages();
        p.slope(100, 1, 10);
        p.put(0, 0, LOWEST);
        p.put(7, 5, HIGHEST);
        p.put(6, 2, -3);
        due("first", p.source(0, 0), LOWEST);
        due("last", p.source(7, 5), HIGHEST);
        due("inside", p.source(6, 2), -3);
        p.put(0, 0, 100);
        p.put(7, 5, 157);
        p.put(6, 2, 126);
        dueSource("put back", p, 100, 1, 10);
    }

    private static void putOutside() {
        PictureStages p = new PictureStages();
        p.slope(100, 1, 10);
        for (int[] xy : outside(0, 7, 0, 5)) {
            due("put" + at(xy), p.put(xy[0], xy[1], 7), -1);
        }
        dueSource("put outside", p, 100, 1, 10);
    }

    private static void putAnswers() {
        PictureStages p = new PictureStages();
        for (int cell = 0; cell < 48; cell++) {
            due("cell " + cell, p.put(cell % 8, cell / 8, cell - 20), 1);
        }
        due("the same number again", p.put(7, 5, 27), 1);
    }

    // Promise 3

    private static void slopeSets() {
        PictureStages p = new PictureStages();
        p.put(3, 3, 9);
        p.slope(5, 2, -30);
        dueSource("slope", p, 5, 2, -30);
        p.slope(0, 0, 0);
        dueSource("slope of nought", p, 0, 0, 0);
    }

    private static void slopeWraps() {
        PictureStages p = new PictureStages();
        p.slope(HIGHEST, HIGHEST, LOWEST);
        dueSource("slope", p, HIGHEST, HIGHEST, LOWEST);
        due("base + dx", p.source(1, 0), -2);
        due("base + dy", p.source(0, 1), -1);
        due("base + 7 * dx", p.source(7, 0), HIGHEST - 7 + LOWEST);
        p.slope(HIGHEST, 1, 0);
        due("one above the highest", p.source(1, 5), LOWEST);
        p.slope(LOWEST, 0, -1);
        due("one below the lowest", p.source(7, 1), HIGHEST);
    }

    // Promise 4

    private static void applySets() {
        PictureStages p = onSlope(0, 1, 10, SOURCE, HERE);
        made(p, STAGE, 1);
        made(p, STAGE, 9 + 1);
        draft(p, NUMBER, 1, NUMBER, 2);
        p.apply(2);
        for (int x = 0; x < 8; x++) {
            due("two columns on, x " + x, p.source(x, 3), 30 + Math.max(0, x - 2));
        }
        due("the stages stay", p.stages(), 3);
        due("and follow the source", p.value(2, 7, 3), 33);
        due("the draft stays", p.clearDraft(), 2);
    }

    /** A cell worked out from a neighbour's new number would run on through the row or column. */
    private static void applyFromOldNumbers() {
        for (int a : new int[] {1, 3, 5, 7}) {
            PictureStages p = onSlope(0, 1, 10, SOURCE, a);
            p.apply(0);
            for (int cell = 0; cell < 48; cell++) {
                int x = Math.min(7, Math.max(0, cell % 8 + a / 3 - 1));
                int y = Math.min(5, Math.max(0, cell / 8 + a % 3 - 1));
                due("neighbour " + a + " in cell " + cell, p.source(cell % 8, cell / 8), x + 10 * y);
            }
        }
    }

    private static void applyNoStage() {
        for (int count = 0; count <= 5; count++) {
            PictureStages p = withStages(count);
            for (int k : missing(count)) {
                due("apply(" + k + ") of " + count, p.apply(k), -1);
            }
        }
        PictureStages p = withStages(1);
        p.slope(0, 1, 10);
        p.dropStage();
        due("a dropped stage", p.apply(0), -1);
        dueSource("refused", p, 0, 1, 10);
    }

    private static void applyAnswers() {
        PictureStages p = onSlope(0, 1, 10, SOURCE, HERE);
        due("none", p.apply(0), 0);
        made(p, SOURCE, 1);
        due("all but the first column", p.apply(1), 42);
        due("and then all but two", p.apply(1), 36);
        made(p, SOURCE, HERE, NUMBER, 1, ADD, 0);
        due("all", p.apply(2), 48);
        made(p, NUMBER, 0);
        p.slope(0, 0, 0);
        p.put(0, 0, 1);
        due("the first", p.apply(3), 1);
        p.put(7, 5, 1);
        due("the last", p.apply(3), 1);
        due("none any more", p.apply(3), 0);
    }

    // Promise 5

    private static void tokenKind() {
        PictureStages p = new PictureStages();
        for (int kind : new int[] {-1, 13, 14, LOWEST, HIGHEST}) {
            due("kind " + kind, p.token(kind, 0), -1);
        }
        due("kind 0", p.token(0, 0), 1);
        draft(p, NUMBER, 0, NUMBER, 0);
        due("kind 12", p.token(12, 0), 1);
    }

    private static void tokenRange() {
        PictureStages p = withStages(2);
        int[][] wrong = {{NUMBER, -100}, {NUMBER, 100}, {NUMBER, LOWEST}, {NUMBER, HIGHEST},
            {SOURCE, -1}, {SOURCE, 9}, {SOURCE, LOWEST}, {SOURCE, HIGHEST},
            {STAGE, -1}, {STAGE, -9}, {STAGE, 18}, {STAGE, 26}, {STAGE, LOWEST}, {STAGE, HIGHEST}};
        for (int[] t : wrong) {
            due("token" + at(t), p.token(t[0], t[1]), -1);
        }
        int[][] right = {{NUMBER, -99}, {NUMBER, 99}, {SOURCE, 0}, {SOURCE, 8}, {STAGE, 0}, {STAGE, 17}};
        for (int i = 0; i < right.length; i++) {
            due("token" + at(right[i]), p.token(right[i][0], right[i][1]), i + 1);
        }
    }

    private static void tokenAny() {
        for (int a : new int[] {LOWEST, -100, -1, 9, 45, 100, HIGHEST}) {
            PictureStages p = new PictureStages();
            due("COLUMN " + a, p.token(COLUMN, a), 1);
            due("ROW " + a, p.token(ROW, a), 2);
            due("HALF " + a, p.token(HALF, a), 2);
            draftTimes(p, 3, NUMBER, 2);
            int[] joining = {ADD, SUB, MUL, MIN};
            for (int i = 0; i < joining.length; i++) {
                due("kind " + joining[i] + " with " + a, p.token(joining[i], a), 4 - i);
            }
            p.stage();
            // The lesser of the column and half the row times 2 - (2 + 2).
            due("value with " + a, p.value(0, 5, 8), -8);
            due("value with " + a + " up left", p.value(0, -3, -4), -3);
            draft(p, NUMBER, 1, NUMBER, 5);
            due("MAX " + a, p.token(MAX, a), 1);
            draft(p, NUMBER, 5);
            due("LESS " + a, p.token(LESS, a), 1);
            draft(p, NUMBER, 7, NUMBER, 8);
            due("PICK " + a, p.token(PICK, a), 1);
            p.stage();
            due("value of PICK with " + a, p.value(1, 0, 0), 8);
        }
    }

    private static void token15() {
        PictureStages p = withStages(1);
        draftTimes(p, 6, NUMBER, 1);
        draft(p, HALF, 0, PICK, 0, ADD, 0);
        draftTimes(p, 3, STAGE, 4);
        due("a refused token", p.token(NUMBER, 1), -4);
        // Nine and three are 12: a refused token is none that the draft has had.
        due("token 13", p.token(HALF, 0), 6);
        due("token 14", p.token(ADD, 0), 5);
        for (int kind = NUMBER; kind <= PICK; kind++) {
            due("token 15 of kind " + kind, p.token(kind, 0), -2);
        }
        due("the formulas stay", p.clearDraft(), 5);
    }

    private static void tokenTooFew() {
        PictureStages p = new PictureStages();
        for (int kind = ADD; kind <= PICK; kind++) {
            due("kind " + kind + " of none", p.token(kind, 0), -3);
        }
        draft(p, NUMBER, 1);
        for (int kind : new int[] {ADD, SUB, MUL, MIN, MAX, LESS, PICK}) {
            due("kind " + kind + " of one", p.token(kind, 0), -3);
        }
        due("HALF of one", p.token(HALF, 0), 1);
        draft(p, NUMBER, 1);
        due("PICK of two", p.token(PICK, 0), -3);
        draft(p, NUMBER, 1);
        due("PICK of three", p.token(PICK, 0), 1);
        for (int kind : new int[] {ADD, SUB, MUL, MIN, MAX, LESS}) {
            p.clearDraft();
            draftTimes(p, 2, NUMBER, 1);
            due("kind " + kind + " of two", p.token(kind, 0), 1);
        }
    }

    private static void tokenSeventh() {
        PictureStages p = withStages(1);
        draftTimes(p, 5, NUMBER, 1);
        due("a sixth formula", p.token(STAGE, 8), 6);
        for (int kind = NUMBER; kind <= STAGE; kind++) {
            due("kind " + kind + " as seventh", p.token(kind, 0), -4);
        }
        due("HALF of six", p.token(HALF, 0), 6);
        due("ADD of six", p.token(ADD, 0), 5);
        due("COLUMN then", p.token(COLUMN, 0), 6);
        due("PICK of six", p.token(PICK, 0), 4);
    }

    private static void tokenAnswers() {
        PictureStages p = withStages(1);
        due("NUMBER", p.token(NUMBER, 5), 1);
        due("COLUMN", p.token(COLUMN, 0), 2);
        due("ROW", p.token(ROW, 0), 3);
        due("SOURCE", p.token(SOURCE, 0), 4);
        due("STAGE", p.token(STAGE, 0), 5);
        due("HALF", p.token(HALF, 0), 5);
        due("LESS", p.token(LESS, 0), 4);
        due("PICK", p.token(PICK, 0), 2);
        due("MAX", p.token(MAX, 0), 1);
    }

    // Promise 6

    private static void clearEmpties() {
        PictureStages p = withStages(1);
        fullDraft(p, STAGE, 0);
        p.clearDraft();
        dueRoomFor14(p);
        p.clearDraft();
        draftTimes(p, 6, NUMBER, 1);
        p.clearDraft();
        dueRoomFor14(p);
        p.clearDraft();
        p.clearDraft();
        dueRoomFor14(p);
        due("the stages stay", p.stages(), 1);
        p.clearDraft();
        made(p, NUMBER, 8);
        due("nothing of the old draft is left", p.value(1, 0, 0), 8);
    }

    private static void clearAnswers() {
        PictureStages p = new PictureStages();
        for (int count = 0; count <= 6; count++) {
            draftTimes(p, count, NUMBER, 1);
            due("clear " + count, p.clearDraft(), count);
        }
        draft(p, NUMBER, 1, NUMBER, 2, NUMBER, 3, ADD, 0);
        due("clear two of four tokens", p.clearDraft(), 2);
        due("clear again", p.clearDraft(), 0);
        fullDraft(p, NUMBER, 1);
        due("clear one of 14 tokens", p.clearDraft(), 1);
    }

    // Promise 7

    private static void stageFormula() {
        PictureStages p = new PictureStages();
        for (int k = 0; k < 5; k++) {
            draft(p, NUMBER, 99 - k);
            for (int i = 0; i < 6; i++) {
                draft(p, NUMBER, k, SUB, 0);
            }
            draft(p, HALF, 0);
            p.stage();
        }
        for (int k = 0; k < 5; k++) {
            due("stage " + k + " of 14 tokens", p.value(k, 0, 0), (99 - 7 * k) / 2);
        }
        p.dropStage();
        made(p, COLUMN, 0);
        due("stage 4 of one token", p.value(4, 6, 0), 6);
        due("stage 3 is as before", p.value(3, 6, 0), 39);
    }

    private static void stageEmpties() {
        PictureStages p = new PictureStages();
        fullDraft(p, NUMBER, 1);
        due("stage of a full draft", p.stage(), 0);
        dueRoomFor14(p);
        due("stage again", p.stage(), 1);
        due("clear", p.clearDraft(), 0);
        due("stage of none", p.stage(), -1);
    }

    private static void stageNotOne() {
        PictureStages p = new PictureStages();
        due("stage of none", p.stage(), -1);
        for (int count = 2; count <= 6; count++) {
            p.clearDraft();
            draftTimes(p, count, NUMBER, count);
            due("stage of " + count, p.stage(), -1);
            due("none was made", p.stages(), 0);
        }
        draftTimes(p, 5, SUB, 0);
        due("stage of one, joined from six", p.stage(), 0);
    }

    private static void stageSixth() {
        PictureStages p = withStages(5);
        draft(p, NUMBER, 9);
        due("a sixth stage", p.stage(), -2);
        due("stages", p.stages(), 5);
        due("the fifth is as before", p.value(4, 0, 0), 4);
        p.dropStage();
        due("a fifth from the kept draft", p.stage(), 4);
        due("its value", p.value(4, 0, 0), 9);
        draft(p, NUMBER, 8);
        due("a sixth stage again", p.stage(), -2);
    }

    private static void stageAnswers() {
        PictureStages p = new PictureStages();
        for (int k = 0; k < 5; k++) {
            due("stage", made(p, NUMBER, 1), k);
        }
        p.dropStage();
        p.dropStage();
        due("stage after two drops", made(p, NUMBER, 1), 3);
        due("and one more", made(p, NUMBER, 1), 4);
    }

    // Promise 8

    private static void dropLast() {
        PictureStages p = withStages(3);
        p.dropStage();
        due("the last is gone", p.value(2, 0, 0), -1);
        due("the others stay", p.value(1, 0, 0), 1);
        due("the first stays", p.value(0, 0, 0), 0);
        made(p, STAGE, 9 + HERE, NUMBER, 40, ADD, 0);
        due("another in its place", p.value(2, 0, 0), 41);
    }

    private static void dropSpokenOf() {
        for (int k = 0; k < 5; k++) {
            for (int b = 0; b < 9; b++) {
                PictureStages p = withStages(k + 1);
                draft(p, STAGE, 9 * k + b);
                p.dropStage();
                due("a formula of stage " + k + ", neighbour " + b, p.clearDraft(), 0);
            }
        }
        PictureStages p = withStages(2);
        draft(p, NUMBER, 1, COLUMN, 0, STAGE, 9, ROW, 0, STAGE, 0);
        p.dropStage();
        due("a formula in the middle", p.clearDraft(), 0);
    }

    private static void dropSpokenOfInPart() {
        PictureStages p = withStages(2);
        draft(p, STAGE, 9 + 4, NUMBER, 0, MUL, 0, NUMBER, 1, ADD, 0, COLUMN, 0);
        p.dropStage();
        due("a part at the start", p.clearDraft(), 0);
        made(p, NUMBER, 1);
        draft(p, NUMBER, 1, NUMBER, 2, STAGE, 9, PICK, 0);
        p.dropStage();
        due("a part that is never picked", p.clearDraft(), 0);
        made(p, NUMBER, 1);
        draft(p, COLUMN, 0);
        for (int i = 0; i < 5; i++) {
            draft(p, ROW, 0, ADD, 0);
        }
        draft(p, STAGE, 17, ADD, 0, HALF, 0);
        p.dropStage();
        due("a part at the end", p.clearDraft(), 0);
    }

    private static void dropNotSpokenOf() {
        PictureStages p = withStages(3);
        draft(p, STAGE, 9 + 8, NUMBER, 1, SOURCE, 2, COLUMN, 18, ROW, 22);
        due("drop", p.dropStage(), 2);
        due("a draft of an earlier stage stays", p.token(ADD, 26), 4);
        draft(p, MUL, 0, ADD, 0, ADD, 0);
        p.stage();
        due("with its formulas", p.value(2, 3, 5), 2);
        p.dropStage();
        p.dropStage();
        fullDraft(p, COLUMN, 4);
        due("drop the only one", p.dropStage(), 0);
        due("a full draft stays full", p.token(HALF, 0), -2);
        due("and has its formula", p.stage(), 0);
        draft(p, NUMBER, 4, SOURCE, 4, HALF, 4);
        p.dropStage();
        due("other kinds speak of no stage", p.clearDraft(), 2);
        // Emptied before the stage went, the draft speaks of it no more.
        made(p, NUMBER, 1);
        draft(p, STAGE, 4);
        p.clearDraft();
        draft(p, NUMBER, 4);
        p.dropStage();
        due("a draft that spoke of it once", p.clearDraft(), 1);
    }

    private static void dropEmptiesLikeClear() {
        PictureStages p = withStages(1);
        fullDraft(p, STAGE, 4);
        p.dropStage();
        dueRoomFor14(p);
        p.clearDraft();
        made(p, NUMBER, 1);
        draftTimes(p, 6, STAGE, 4);
        p.dropStage();
        dueRoomFor14(p);
        due("a stage of the new draft", p.stage(), 0);
    }

    private static void dropNone() {
        PictureStages p = new PictureStages();
        due("of a new object", p.dropStage(), -1);
        draft(p, NUMBER, 1);
        due("with a draft", p.dropStage(), -1);
        due("the draft stays", p.stage(), 0);
        due("the only one", p.dropStage(), 0);
        due("none any more", p.dropStage(), -1);
        due("stages", p.stages(), 0);
    }

    private static void dropAnswers() {
        PictureStages p = withStages(5);
        for (int left = 4; left >= 0; left--) {
            due("drop", p.dropStage(), left);
        }
    }

    // Promise 9

    private static void waySets() {
        PictureStages p = withStages(5);
        for (int k = 0; k < 5; k++) {
            p.way(k, k % 4);
        }
        for (int k = 0; k < 5; k++) {
            due("way of stage " + k, p.way(k, 0), k % 4);
        }
    }

    private static void wayNoStage() {
        for (int count = 0; count <= 5; count++) {
            PictureStages p = withStages(count);
            for (int k : missing(count)) {
                due("way of " + k + " of " + count, p.way(k, 0), -1);
            }
        }
        PictureStages p = withStages(1);
        p.dropStage();
        due("a dropped stage", p.way(0, 0), -1);
    }

    private static void wayWrongHow() {
        PictureStages p = withStages(1);
        p.way(0, 2);
        for (int how : new int[] {-1, 4, 5, LOWEST, HIGHEST}) {
            due("how " + how, p.way(0, how), -2);
        }
        due("the way stays", p.way(0, 0), 2);
    }

    private static void wayAnswers() {
        PictureStages p = withStages(2);
        int had = 0;
        for (int how : new int[] {0, 3, 3, 0, 1, 2, 1, 3}) {
            due("way " + how, p.way(1, how), had);
            had = how;
        }
        due("the other's way", p.way(0, 1), 0);
        p.dropStage();
        made(p, NUMBER, 1);
        due("a new stage's way", p.way(1, 2), 0);
        due("the old stage's way", p.way(0, 0), 1);
    }

    // Promise 10

    private static void stagesAnswers() {
        PictureStages p = new PictureStages();
        due("none", p.stages(), 0);
        for (int k = 0; k < 5; k++) {
            made(p, NUMBER, k);
            due("stages", p.stages(), k + 1);
        }
        made(p, NUMBER, 1);
        due("after a refused one", p.stages(), 5);
        for (int k = 4; k >= 0; k--) {
            p.dropStage();
            due("after a drop", p.stages(), k);
        }
        p.dropStage();
        due("after a refused drop", p.stages(), 0);
    }

    // Promise 11

    private static void sourceCell() {
        PictureStages p = new PictureStages();
        p.slope(1000, 1, 10);
        dueSource("source", p, 1000, 1, 10);
    }

    /** The question knows no nearest cell: that is for the formulas. */
    private static void sourceOutside() {
        PictureStages p = new PictureStages();
        p.slope(1000, 1, 10);
        for (int[] xy : outside(0, 7, 0, 5)) {
            due("source" + at(xy), p.source(xy[0], xy[1]), 0);
        }
    }

    // Promise 12

    private static void valueWithin() {
        PictureStages p = onSlope(0, 0, 0, COLUMN, 0, NUMBER, 50, MUL, 0, ROW, 0, ADD, 0);
        for (int y = -4; y <= 9; y++) {
            for (int x = -4; x <= 11; x++) {
                due("value(0, " + x + ", " + y + ")", p.value(0, x, y), 50 * x + y);
            }
        }
    }

    private static void valueOfSeveral() {
        PictureStages p = onSlope(0, 0, 0, COLUMN, 0, NUMBER, 50, MUL, 0, ROW, 0, ADD, 0);
        made(p, STAGE, 8);
        made(p, STAGE, 9 + 8);
        made(p, STAGE, 5, STAGE, 9 + 1, SUB, 0, STAGE, 18 + 6, ADD, 0);
        int first = 50 * 2 + 4;
        int second = 50 * 2 + 4;
        int third = 50 * 5 + 4;
        due("a stage of several", p.value(3, 2, 3), first - second + third);
    }

    private static void valueFollowsTheSource() {
        PictureStages p = onSlope(0, 0, 0, SOURCE, HERE, NUMBER, 1, ADD, 0);
        made(p, STAGE, 7);
        due("before put", p.value(1, 2, 2), 1);
        p.put(3, 2, 40);
        due("after put", p.value(1, 2, 2), 41);
        p.slope(7, 0, 0);
        due("after slope", p.value(1, 2, 2), 8);
        p.apply(1);
        due("after apply", p.value(1, 2, 2), 9);
        p.dropStage();
        made(p, NUMBER, 5);
        due("after another stage took its number", p.value(1, 2, 2), 5);
    }

    private static void valueFarOff() {
        PictureStages p = withStages(2);
        due("a near one", p.value(1, 1, 1), 1);
        for (int[] xy : outside(-4, 11, -4, 9)) {
            due("value at " + at(xy), p.value(1, xy[0], xy[1]), 0);
        }
    }

    private static void valueFarOffOfNoStage() {
        for (int count : new int[] {0, 2, 5}) {
            PictureStages p = withStages(count);
            for (int k : missing(count)) {
                due("value of " + k + " far left", p.value(k, -5, 0), -1);
                due("value of " + k + " far right", p.value(k, 12, 0), -1);
                due("value of " + k + " far up", p.value(k, 0, -5), -1);
                due("value of " + k + " far down", p.value(k, 0, 10), -1);
                due("value of " + k + " as far as can be", p.value(k, LOWEST, HIGHEST), -1);
            }
        }
    }

    // Promise 13

    private static void totalSums() {
        PictureStages p = onSlope(0, 1, 10, SOURCE, HERE);
        due("total", p.total(0), 6 * 28 + 8 * 150);
        p.slope(0, 0, 0);
        p.put(7, 5, 3);
        due("the last cell", p.total(0), 3);
        p.put(0, 0, 4);
        due("the first cell too", p.total(0), 7);
        made(p, COLUMN, 0, ROW, 0, MUL, 0);
        due("another stage", p.total(1), 28 * 15);
        made(p, NUMBER, 1);
        due("48 cells and none beyond", p.total(2), 48);
    }

    private static void totalWraps() {
        PictureStages p = onSlope(HIGHEST, 0, 0, SOURCE, HERE);
        due("of the highest", p.total(0), -48);
        p.slope(LOWEST, 0, 0);
        due("of the lowest", p.total(0), 0);
        p.slope(0, 0, 0);
        p.put(3, 3, HIGHEST);
        p.put(4, 4, 1);
        due("one above the highest", p.total(0), LOWEST);
        p.put(3, 3, LOWEST);
        p.put(4, 4, -1);
        due("one below the lowest", p.total(0), HIGHEST);
    }

    // Promise 14

    private static void peakGreatest() {
        PictureStages p = onSlope(0, 1, 10, SOURCE, HERE);
        due("the last cell", p.peak(0), 47);
        p.slope(0, -1, 10);
        due("the last row's first cell", p.peak(0), 40);
        p.slope(0, 1, -10);
        due("the first row's last cell", p.peak(0), 7);
        p.slope(0, -1, -10);
        due("the first cell", p.peak(0), 0);
        p.slope(LOWEST, 0, 0);
        p.put(6, 4, LOWEST + 1);
        due("one above the lowest", p.peak(0), 38);
        p.put(6, 1, HIGHEST);
        due("the highest", p.peak(0), 14);
        made(p, ROW, 0);
        due("another stage, greater beyond the edge", p.peak(1), 40);
    }

    private static void peakInEachCell() {
        PictureStages p = onSlope(0, 3, -2, SOURCE, HERE);
        for (int cell = 0; cell < 48; cell++) {
            int had = p.source(cell % 8, cell / 8);
            p.put(cell % 8, cell / 8, 100);
            due("cell " + cell, p.peak(0), cell);
            p.put(cell % 8, cell / 8, had);
        }
    }

    private static void peakFirst() {
        PictureStages p = onSlope(0, 0, 0, SOURCE, HERE);
        due("all the same", p.peak(0), 0);
        p.slope(LOWEST, 0, 0);
        due("all the lowest", p.peak(0), 0);
        p.put(5, 2, -7);
        p.put(2, 3, -7);
        due("of two rows", p.peak(0), 21);
        p.put(4, 2, -7);
        due("of one row", p.peak(0), 20);
        p.slope(0, 0, 1);
        due("of the last row", p.peak(0), 40);
    }

    // Promise 15

    private static void atLeastCounts() {
        PictureStages p = new PictureStages();
        made(p, COLUMN, 0);
        due("at least 0", p.atLeast(0, 0), 48);
        due("at least 1", p.atLeast(0, 1), 42);
        due("at least 7", p.atLeast(0, 7), 6);
        due("at least 8", p.atLeast(0, 8), 0);
        due("at least -1", p.atLeast(0, -1), 48);
        made(p, NUMBER, -5);
        due("at least -4", p.atLeast(1, -4), 0);
        due("at least -5", p.atLeast(1, -5), 48);
    }

    private static void atLeastExtremes() {
        PictureStages p = onSlope(LOWEST, 0, 0, SOURCE, HERE);
        due("none the highest", p.atLeast(0, HIGHEST), 0);
        p.put(7, 5, HIGHEST);
        p.put(0, 0, HIGHEST);
        due("two the highest", p.atLeast(0, HIGHEST), 2);
        due("all at least the lowest", p.atLeast(0, LOWEST), 48);
        due("two above the lowest", p.atLeast(0, LOWEST + 1), 2);
        due("two at least 1", p.atLeast(0, 1), 2);
    }

    // Promise 16

    private static void differCounts() {
        PictureStages p = onSlope(0, 1, 0, COLUMN, 0);
        made(p, ROW, 0);
        due("column and row", p.differ(0, 1), 42);
        due("row and column", p.differ(1, 0), 42);
        due("itself", p.differ(0, 0), 0);
        made(p, SOURCE, HERE);
        due("the same but beyond the edges", p.differ(0, 2), 0);
        p.put(7, 5, 9);
        due("the last cell", p.differ(2, 0), 1);
        p.put(0, 0, 9);
        due("the first cell too", p.differ(0, 2), 2);
        made(p, NUMBER, 50);
        due("all", p.differ(3, 0), 48);
        p.slope(LOWEST, 0, 0);
        made(p, SOURCE, HERE, NUMBER, 1, SUB, 0);
        due("the lowest and the highest", p.differ(2, 4), 48);
    }

    private static void differNoStage() {
        PictureStages p = withStages(2);
        for (int k : missing(2)) {
            due("differ(0, " + k + ")", p.differ(0, k), -1);
            due("differ(1, " + k + ")", p.differ(1, k), -1);
            due("differ(" + k + ", 0)", p.differ(k, 0), -1);
            due("differ(" + k + ", 1)", p.differ(k, 1), -1);
            due("differ(" + k + ", " + k + ")", p.differ(k, k), -1);
        }
    }

    // Promise 17

    private static void changedCounts() {
        PictureStages p = onSlope(0, 1, 10, SOURCE, HERE);
        due("none", p.changed(0), 0);
        made(p, SOURCE, 1);
        due("all but the first column", p.changed(1), 42);
        due("it is a question alone", p.changed(1), 42);
        dueSource("it is a question alone", p, 0, 1, 10);
        made(p, COLUMN, 0);
        due("all but the first row", p.changed(2), 40);
        p.put(7, 0, 8);
        due("and a put one", p.changed(2), 41);
        p.put(7, 5, 7);
        due("but not the last one", p.changed(2), 40);
        p.put(0, 0, 5);
        due("and the first one", p.changed(2), 41);
        made(p, SOURCE, HERE, NUMBER, 1, ADD, 0);
        p.slope(HIGHEST, 0, 0);
        due("all, from the highest to the lowest", p.changed(3), 48);
    }

    private static void changingTheSource() {
        sentence("1. The source is 0 everywhere", PromiseTests::newSource);
        sentence("1. no stages", PromiseTests::newStages);
        sentence("1. an empty draft", PromiseTests::newDraft);
        sentence("2. Sets a cell of the source", PromiseTests::putSets);
        sentence("2. x is not 0 to 7 or y not 0 to 5: -1", PromiseTests::putOutside);
        sentence("2. Else answers 1", PromiseTests::putAnswers);
        sentence("3. Sets every cell (x, y) to base + dx * x + dy * y", PromiseTests::slopeSets);
        sentence("3. (wrapping)", PromiseTests::slopeWraps);
        sentence("4. Every cell of the source becomes what stage k is there", PromiseTests::applySets);
        sentence("4. all worked out before any is changed", PromiseTests::applyFromOldNumbers);
        sentence("4. There is no stage k: -1", PromiseTests::applyNoStage);
        sentence("4. Else answers how many cells get another number", PromiseTests::applyAnswers);
    }

    private static void changingTheDraft() {
        sentence("5. kind is not 0 to 12: -1", PromiseTests::tokenKind);
        sentence("5. a is not in its range for NUMBER, SOURCE or STAGE: -1", PromiseTests::tokenRange);
        sentence("5. (for others a is not looked at)", PromiseTests::tokenAny);
        sentence("5. The draft has had 14 tokens: -2", PromiseTests::token15);
        sentence("5. it has fewer formulas than the token takes: -3", PromiseTests::tokenTooFew);
        sentence("5. the token takes none and there are 6: -4", PromiseTests::tokenSeventh);
        sentence("5. Else answers how many formulas the draft has then", PromiseTests::tokenAnswers);
        sentence("6. The draft becomes empty, and takes 14 tokens again", PromiseTests::clearEmpties);
        sentence("6. Answers how many formulas it had", PromiseTests::clearAnswers);
    }

    private static void changingTheStages() {
        sentence("7. Makes the draft the formula of a new stage", PromiseTests::stageFormula);
        sentence("7. the draft is empty then, and takes 14 tokens again", PromiseTests::stageEmpties);
        sentence("7. The draft has not exactly one formula: -1", PromiseTests::stageNotOne);
        sentence("7. there are 5 stages: -2", PromiseTests::stageSixth);
        sentence("7. Else answers the stage's number", PromiseTests::stageAnswers);
        sentence("8. Takes the last stage away", PromiseTests::dropLast);
        sentence("8. if a formula on the draft speaks of it, the draft becomes empty", PromiseTests::dropSpokenOf);
        sentence("8. (or a part of one)", PromiseTests::dropSpokenOfInPart);
        sentence("8. if none speaks of it, the draft stays", PromiseTests::dropNotSpokenOf);
        sentence("8. as by clearDraft", PromiseTests::dropEmptiesLikeClear);
        sentence("8. There is none: -1", PromiseTests::dropNone);
        sentence("8. Else answers how many are left", PromiseTests::dropAnswers);
        sentence("9. Sets the way of stage k", PromiseTests::waySets);
        sentence("9. There is no stage k: -1", PromiseTests::wayNoStage);
        sentence("9. how is not 0 to 3: -2", PromiseTests::wayWrongHow);
        sentence("9. Else answers the way it had", PromiseTests::wayAnswers);
    }

    private static void asking() {
        sentence("10. How many stages there are", PromiseTests::stagesAnswers);
        sentence("11. The source's cell (x, y)", PromiseTests::sourceCell);
        sentence("11. 0 if x is not 0 to 7 or y not 0 to 5", PromiseTests::sourceOutside);
        sentence("12. f(k, x, y), as far as x is -4 to 11 and y -4 to 9", PromiseTests::valueWithin);
        sentence("12. f(k, x, y), of several stages", PromiseTests::valueOfSeveral);
        sentence("12. f(k, x, y), of the source as it is", PromiseTests::valueFollowsTheSource);
        sentence("12. 0 if x is not -4 to 11 or y not -4 to 9", PromiseTests::valueFarOff);
        sentence("12. (after k is tested)", PromiseTests::valueFarOffOfNoStage);
        sentence("13. The sum of f(k, x, y) over all cells", PromiseTests::totalSums);
        sentence("13. (wrapping)", PromiseTests::totalWraps);
        sentence("14. 8 * y + x for the cell with the greatest number", PromiseTests::peakGreatest);
        sentence("14. 8 * y + x, of each cell", PromiseTests::peakInEachCell);
        sentence("14. for the first cell", PromiseTests::peakFirst);
        sentence("15. How many cells have a number of at least v", PromiseTests::atLeastCounts);
        sentence("15. at least v, of the lowest and the highest", PromiseTests::atLeastExtremes);
        sentence("16. How many cells have different numbers in stage k and in stage l", PromiseTests::differCounts);
        sentence("16. no stage k (or l): -1", PromiseTests::differNoStage);
        sentence("17. How many cells have another number in stage k than the source has there", PromiseTests::changedCounts);
    }

    public static void main(String[] args) {
        changingTheSource();
        changingTheDraft();
        changingTheStages();
        asking();
        end();
    }
}
