import java.util.Arrays;

/** What the tests of the document's sentences share: the kinds of token, and short ways to a draft or a stage. */
abstract class Checks {
    static final int NUMBER = 0;
    static final int COLUMN = 1;
    static final int ROW = 2;
    static final int SOURCE = 3;
    static final int STAGE = 4;
    static final int ADD = 5;
    static final int SUB = 6;
    static final int MUL = 7;
    static final int MIN = 8;
    static final int MAX = 9;
    static final int HALF = 10;
    static final int LESS = 11;
    static final int PICK = 12;

    /** The neighbour that is the cell itself, and the two furthest ones. */
    static final int HERE = 4;
    static final int UP_LEFT = 0;
    static final int DOWN_RIGHT = 8;

    static final int LOWEST = Integer.MIN_VALUE;
    static final int HIGHEST = Integer.MAX_VALUE;

    private static final Answers ANSWERS = new Answers();
    private static String sentence = "";
    private static int checks = 0;

    /** Runs the test of one sentence; a test that looks at no answer would hold whatever the program does. */
    static void sentence(String words, Runnable test) {
        sentence = words;
        checks = 0;
        test.run();
        ANSWERS.due(words + ": tests without an answer", checks == 0 ? 1 : 0, 0);
    }

    static void due(String call, long got, long want) {
        checks++;
        ANSWERS.due(sentence + ": " + call, got, want);
    }

    static void end() {
        ANSWERS.end();
    }

    /** Puts tokens, given as kind, a, kind, a, .., on the draft; none may be refused. */
    static void draft(PictureStages p, int... tokens) {
        for (int i = 0; i < tokens.length; i += 2) {
            int got = p.token(tokens[i], tokens[i + 1]);
            if (got < 1) {
                due("draft " + Arrays.toString(tokens) + ", token " + i / 2, got, 1);
            }
        }
    }

    static void draftTimes(PictureStages p, int times, int kind, int a) {
        for (int i = 0; i < times; i++) {
            draft(p, kind, a);
        }
    }

    /** A draft that has had 14 tokens and has one formula. */
    static void fullDraft(PictureStages p, int kind, int a) {
        draft(p, kind, a);
        draftTimes(p, 13, HALF, 0);
    }

    /** Makes a stage of the tokens and answers its number. */
    static int made(PictureStages p, int... tokens) {
        draft(p, tokens);
        return p.stage();
    }

    /** An object with that many stages, of which stage k is k everywhere. */
    static PictureStages withStages(int count) {
        PictureStages p = new PictureStages();
        for (int k = 0; k < count; k++) {
            made(p, NUMBER, k);
        }
        return p;
    }

    /** An object with a sloping source and one stage of these tokens. */
    static PictureStages onSlope(int base, int dx, int dy, int... tokens) {
        PictureStages p = new PictureStages();
        p.slope(base, dx, dy);
        made(p, tokens);
        return p;
    }

    static void dueSource(String when, PictureStages p, int base, int dx, int dy) {
        for (int y = 0; y < 6; y++) {
            for (int x = 0; x < 8; x++) {
                due(when + ": source(" + x + ", " + y + ")", p.source(x, y), base + dx * x + dy * y);
            }
        }
    }

    /** No stage has one of these numbers in an object with that many stages. */
    static int[] missing(int count) {
        return new int[] {-1, count, count + 1, 5, -count - 1, LOWEST, HIGHEST};
    }

    /** Just outside the picture at each edge and corner, and as far off as can be. */
    static int[][] outside(int left, int right, int top, int bottom) {
        return new int[][] {
            {left - 1, 1}, {right + 1, 1}, {1, top - 1}, {1, bottom + 1},
            {left - 1, top - 1}, {right + 1, bottom + 1}, {left - 1, bottom + 1}, {right + 1, top - 1},
            {left - 1, top + 1}, {right + 1, bottom - 1},
            {LOWEST, 1}, {HIGHEST, 1}, {1, LOWEST}, {1, HIGHEST}, {LOWEST, LOWEST}, {HIGHEST, HIGHEST}};
    }

    static String at(int[] xy) {
        return "(" + xy[0] + ", " + xy[1] + ")";
    }
}
