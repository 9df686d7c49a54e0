public final class PictureStages {
    private static final int COLUMNS = 8;
    private static final int ROWS = 6;
    private static final int CELLS = COLUMNS * ROWS;

    private static final int STAGE_LIMIT = 5;
    private static final int TOKEN_LIMIT = 14;
    private static final int FORMULA_LIMIT = 6;
    private static final int TOKENS_OF_ALL_STAGES = STAGE_LIMIT * TOKEN_LIMIT;
    private static final int WAY_COUNT = 4;

    private static final int NUMBER = 0;
    private static final int COLUMN = 1;
    private static final int ROW = 2;
    private static final int SOURCE = 3;
    private static final int STAGE = 4;
    private static final int ADD = 5;
    private static final int SUB = 6;
    private static final int MUL = 7;
    private static final int MIN = 8;
    private static final int MAX = 9;
    private static final int HALF = 10;
    private static final int LESS = 11;
    private static final int PICK = 12;

    private static final int NUMBER_BOUND = 99;
    // A token's neighbour is one of the 3 by 3 cells around a cell.
    private static final int NEIGHBOURS = 9;

    // value looks this far beyond the edges.
    private static final int ASKED_MARGIN = 4;
    // A formula looks at most one cell further out in an earlier stage than
    // it is worked out in, so stage 0 needs the widest margin and each later
    // stage may do with one cell less.
    private static final int WIDEST_MARGIN = ASKED_MARGIN + STAGE_LIMIT - 1;
    private static final int PICTURE_COLUMNS = COLUMNS + 2 * WIDEST_MARGIN;
    private static final int PICTURE_ROWS = ROWS + 2 * WIDEST_MARGIN;
    private static final int PICTURE_CELLS = PICTURE_COLUMNS * PICTURE_ROWS;
    private static final int CELLS_OF_ALL_PICTURES = STAGE_LIMIT * PICTURE_CELLS;

    private final int[] sourceCells = new int[CELLS];

    private int stageCount = 0;
    private final int[] stageKinds = new int[TOKENS_OF_ALL_STAGES];
    private final int[] stageArguments = new int[TOKENS_OF_ALL_STAGES];
    private final int[] stageLengths = new int[STAGE_LIMIT];
    // A way is only kept to be answered: it must change no other answer, and
    // the document gives the ways no meaning beyond that.
    private final int[] stageWays = new int[STAGE_LIMIT];

    private int draftLength = 0;
    private int draftFormulas = 0;
    private final int[] draftKinds = new int[TOKEN_LIMIT];
    private final int[] draftArguments = new int[TOKEN_LIMIT];

    // Scratch: worked out anew by each call that looks at a stage, so that
    // nothing in it can be out of date.
    private final int[] pictures = new int[CELLS_OF_ALL_PICTURES];
    private final int[] stack = new int[FORMULA_LIMIT];

    public PictureStages() {
    }

    public int put(int x, int y, int v) {
        if (!isCell(x, y)) {
            return -1;
        }
        sourceCells[y * COLUMNS + x] = v;
        return 1;
    }

    public void slope(int base, int dx, int dy) {
        for (int cell = 0; cell < CELLS; cell++) {
            sourceCells[cell] = base + dx * (cell % COLUMNS) + dy * (cell / COLUMNS);
        }
    }

    public int apply(int k) {
        if (!isStage(k)) {
            return -1;
        }
        workOutStages();
        int others = 0;
        for (int cell = 0; cell < CELLS; cell++) {
            int number = stageCell(k, cell);
            if (number != sourceCells[cell]) {
                others++;
            }
            sourceCells[cell] = number;
        }
        return others;
    }

    public int token(int kind, int a) {
        if (kind < NUMBER || kind > PICK || !argumentFits(kind, a)) {
            return -1;
        }
        if (draftLength >= TOKEN_LIMIT) {
            return -2;
        }
        int taken = formulasTaken(kind);
        if (draftFormulas < taken) {
            return -3;
        }
        if (taken == 0 && draftFormulas >= FORMULA_LIMIT) {
            return -4;
        }
        draftKinds[draftLength] = kind;
        draftArguments[draftLength] = a;
        draftLength++;
        draftFormulas = draftFormulas - taken + 1;
        return draftFormulas;
    }

    public int clearDraft() {
        int had = draftFormulas;
        emptyDraft();
        return had;
    }

    public int stage() {
        if (draftFormulas != 1) {
            return -1;
        }
        if (stageCount >= STAGE_LIMIT) {
            return -2;
        }
        int k = stageCount;
        int first = k * TOKEN_LIMIT;
        for (int i = 0; i < draftLength; i++) {
            stageKinds[first + i] = draftKinds[i];
            stageArguments[first + i] = draftArguments[i];
        }
        stageLengths[k] = draftLength;
        // A dropped stage of the same number may have left its way behind.
        stageWays[k] = 0;
        stageCount++;
        emptyDraft();
        return k;
    }

    public int dropStage() {
        if (stageCount == 0) {
            return -1;
        }
        stageCount--;
        // No stage is left that speaks of the dropped one, as a formula can
        // only name stages made before it; the draft alone may.
        if (draftSpeaksOf(stageCount)) {
            emptyDraft();
        }
        return stageCount;
    }

    public int way(int k, int how) {
        if (!isStage(k)) {
            return -1;
        }
        if (how < 0 || how >= WAY_COUNT) {
            return -2;
        }
        int had = stageWays[k];
        stageWays[k] = how;
        return had;
    }

    public int stages() {
        return stageCount;
    }

    public int source(int x, int y) {
        if (!isCell(x, y)) {
            return 0;
        }
        return sourceCells[y * COLUMNS + x];
    }

    public int value(int k, int x, int y) {
        if (!isStage(k)) {
            return -1;
        }
        if (x < -ASKED_MARGIN || x >= COLUMNS + ASKED_MARGIN) {
            return 0;
        }
        if (y < -ASKED_MARGIN || y >= ROWS + ASKED_MARGIN) {
            return 0;
        }
        workOutStages();
        return pictures[placeInPictures(k, x, y)];
    }

    public int total(int k) {
        if (!isStage(k)) {
            return -1;
        }
        workOutStages();
        int sum = 0;
        for (int cell = 0; cell < CELLS; cell++) {
            sum += stageCell(k, cell);
        }
        return sum;
    }

    public int peak(int k) {
        if (!isStage(k)) {
            return -1;
        }
        workOutStages();
        int best = 0;
        int greatest = stageCell(k, 0);
        for (int cell = 1; cell < CELLS; cell++) {
            int number = stageCell(k, cell);
            if (number > greatest) {
                greatest = number;
                best = cell;
            }
        }
        return best;
    }

    public int atLeast(int k, int v) {
        if (!isStage(k)) {
            return -1;
        }
        workOutStages();
        int count = 0;
        for (int cell = 0; cell < CELLS; cell++) {
            if (stageCell(k, cell) >= v) {
                count++;
            }
        }
        return count;
    }

    public int differ(int k, int l) {
        if (!isStage(k) || !isStage(l)) {
            return -1;
        }
        workOutStages();
        int count = 0;
        for (int cell = 0; cell < CELLS; cell++) {
            if (stageCell(k, cell) != stageCell(l, cell)) {
                count++;
            }
        }
        return count;
    }

    public int changed(int k) {
        if (!isStage(k)) {
            return -1;
        }
        workOutStages();
        int count = 0;
        for (int cell = 0; cell < CELLS; cell++) {
            if (stageCell(k, cell) != sourceCells[cell]) {
                count++;
            }
        }
        return count;
    }

    private boolean isCell(int x, int y) {
        return x >= 0 && x < COLUMNS && y >= 0 && y < ROWS;
    }

    private boolean isStage(int k) {
        return k >= 0 && k < stageCount;
    }

    private boolean argumentFits(int kind, int a) {
        switch (kind) {
            case NUMBER:
                return a >= -NUMBER_BOUND && a <= NUMBER_BOUND;
            case SOURCE:
                return a >= 0 && a < NEIGHBOURS;
            case STAGE:
                return a >= 0 && a < NEIGHBOURS * stageCount;
            default:
                return true;
        }
    }

    private int formulasTaken(int kind) {
        if (kind <= STAGE) {
            return 0;
        }
        if (kind == HALF) {
            return 1;
        }
        return kind == PICK ? 3 : 2;
    }

    private void emptyDraft() {
        draftLength = 0;
        draftFormulas = 0;
    }

    private boolean draftSpeaksOf(int k) {
        for (int i = 0; i < draftLength; i++) {
            if (draftKinds[i] == STAGE && draftArguments[i] / NEIGHBOURS == k) {
                return true;
            }
        }
        return false;
    }

    private void workOutStages() {
        for (int k = 0; k < stageCount; k++) {
            int margin = WIDEST_MARGIN - k;
            for (int y = -margin; y < ROWS + margin; y++) {
                for (int x = -margin; x < COLUMNS + margin; x++) {
                    int place = placeInPictures(k, x, y);
                    pictures[place] = formulaAt(k, x, y);
                }
            }
        }
    }

    private int placeInPictures(int k, int x, int y) {
        int row = y + WIDEST_MARGIN;
        int column = x + WIDEST_MARGIN;
        return k * PICTURE_CELLS + row * PICTURE_COLUMNS + column;
    }

    private int stageCell(int k, int cell) {
        return pictures[placeInPictures(k, cell % COLUMNS, cell / COLUMNS)];
    }

    private int formulaAt(int k, int x, int y) {
        int first = k * TOKEN_LIMIT;
        int length = stageLengths[k];
        int height = 0;
        for (int i = 0; i < length; i++) {
            int kind = stageKinds[first + i];
            height -= formulasTaken(kind);
            if (kind <= STAGE) {
                stack[height] = plainNumber(kind, stageArguments[first + i], x, y);
            } else {
                stack[height] = joinedNumber(kind, height);
            }
            height++;
        }
        return stack[0];
    }

    private int plainNumber(int kind, int a, int x, int y) {
        int neighbour = a % NEIGHBOURS;
        int nearX = x + neighbour / 3 - 1;
        int nearY = y + neighbour % 3 - 1;
        switch (kind) {
            case NUMBER:
                return a;
            case COLUMN:
                return x;
            case ROW:
                return y;
            case SOURCE:
                return sourceBeyondEdges(nearX, nearY);
            default:
                return pictures[placeInPictures(a / NEIGHBOURS, nearX, nearY)];
        }
    }

    // The formulas taken off still lie on the stack, from bottom upwards.
    private int joinedNumber(int kind, int bottom) {
        int f = stack[bottom];
        if (kind == HALF) {
            // A shift rounds down below 0 too, where a division would not.
            return f >> 1;
        }
        int g = stack[bottom + 1];
        switch (kind) {
            case ADD:
                return f + g;
            case SUB:
                return f - g;
            case MUL:
                return f * g;
            case MIN:
                return f < g ? f : g;
            case MAX:
                return f > g ? f : g;
            case LESS:
                return f < g ? 1 : 0;
            default:
                return f > 0 ? g : stack[bottom + 2];
        }
    }

    private int sourceBeyondEdges(int x, int y) {
        int column = nearest(x, COLUMNS - 1);
        int row = nearest(y, ROWS - 1);
        return sourceCells[row * COLUMNS + column];
    }

    private int nearest(int at, int last) {
        if (at < 0) {
            return 0;
        }
        return at > last ? last : at;
    }
}
