import java.util.ArrayList;
import java.util.List;

/**
 * The document read a second time, in another form than the program's:
 * formulas are trees, and a stage is worked out afresh at each single cell.
 */
final class Model {
    private interface Formula {
        int at(int x, int y);
    }

    /** A formula and the stages it speaks of, as a set of bits. */
    private record Part(Formula formula, int stages) {
    }

    private int[][] source = new int[6][8];
    private final List<Formula> formulas = new ArrayList<>();
    private final List<Integer> ways = new ArrayList<>();
    private final List<Part> draft = new ArrayList<>();
    private int tokens = 0;

    private boolean isCell(int x, int y) {
        return 0 <= x && x <= 7 && 0 <= y && y <= 5;
    }

    private boolean missing(int k) {
        return k < 0 || k >= formulas.size();
    }

    int put(int x, int y, int v) {
        if (!isCell(x, y)) {
            return -1;
        }
        source[y][x] = v;
        return 1;
    }

    void slope(int base, int dx, int dy) {
        for (int y = 0; y < 6; y++) {
            for (int x = 0; x < 8; x++) {
                source[y][x] = base + dx * x + dy * y;
            }
        }
    }

    private int[][] picture(int k) {
        int[][] picture = new int[6][8];
        for (int y = 0; y < 6; y++) {
            for (int x = 0; x < 8; x++) {
                picture[y][x] = formulas.get(k).at(x, y);
            }
        }
        return picture;
    }

    private static int others(int[][] one, int[][] two) {
        int count = 0;
        for (int y = 0; y < 6; y++) {
            for (int x = 0; x < 8; x++) {
                count += one[y][x] == two[y][x] ? 0 : 1;
            }
        }
        return count;
    }

    int apply(int k) {
        if (missing(k)) {
            return -1;
        }
        int[][] next = picture(k);
        int count = others(next, source);
        source = next;
        return count;
    }

    int token(int kind, int a) {
        int[] takes = {0, 0, 0, 0, 0, 2, 2, 2, 2, 2, 1, 2, 3};
        if (kind < 0 || kind > 12
            || kind == 0 && (a < -99 || a > 99)
            || kind == 3 && (a < 0 || a > 8)
            || kind == 4 && missing(Math.floorDiv(a, 9))) {
            return -1;
        }
        if (tokens == 14) {
            return -2;
        }
        if (draft.size() < takes[kind]) {
            return -3;
        }
        if (takes[kind] == 0 && draft.size() == 6) {
            return -4;
        }
        tokens++;
        Part h = kind == 12 ? pop() : null;
        Part g = takes[kind] >= 2 ? pop() : null;
        Part f = takes[kind] >= 1 ? pop() : null;
        int spoken = kind == 4 ? 1 << a / 9 : 0;
        for (Part part : new Part[] {f, g, h}) {
            spoken |= part == null ? 0 : part.stages();
        }
        draft.add(new Part(takes[kind] == 0 ? plain(kind, a) : joined(kind, f, g, h), spoken));
        return draft.size();
    }

    private Part pop() {
        return draft.remove(draft.size() - 1);
    }

    private Formula plain(int kind, int a) {
        switch (kind) {
            case 0:
                return (x, y) -> a;
            case 1:
                return (x, y) -> x;
            case 2:
                return (x, y) -> y;
            case 3:
                return (x, y) -> source[Math.min(5, Math.max(0, y + a % 3 - 1))][Math.min(7, Math.max(0, x + a / 3 - 1))];
            default:
                Formula stage = formulas.get(a / 9);
                int b = a % 9;
                return (x, y) -> stage.at(x + b / 3 - 1, y + b % 3 - 1);
        }
    }

    private static Formula joined(int kind, Part first, Part second, Part third) {
        Formula f = first.formula();
        if (kind == 10) {
            return (x, y) -> Math.floorDiv(f.at(x, y), 2);
        }
        Formula g = second.formula();
        switch (kind) {
            case 5:
                return (x, y) -> (int) ((long) f.at(x, y) + g.at(x, y));
            case 6:
                return (x, y) -> (int) ((long) f.at(x, y) - g.at(x, y));
            case 7:
                return (x, y) -> (int) ((long) f.at(x, y) * g.at(x, y));
            case 8:
                return (x, y) -> Math.min(f.at(x, y), g.at(x, y));
            case 9:
                return (x, y) -> Math.max(f.at(x, y), g.at(x, y));
            case 11:
                return (x, y) -> f.at(x, y) < g.at(x, y) ? 1 : 0;
            default:
                Formula h = third.formula();
                return (x, y) -> f.at(x, y) > 0 ? g.at(x, y) : h.at(x, y);
        }
    }

    int clearDraft() {
        int had = draft.size();
        draft.clear();
        tokens = 0;
        return had;
    }

    int stage() {
        if (draft.size() != 1) {
            return -1;
        }
        if (formulas.size() == 5) {
            return -2;
        }
        formulas.add(draft.get(0).formula());
        ways.add(0);
        clearDraft();
        return formulas.size() - 1;
    }

    int dropStage() {
        if (formulas.isEmpty()) {
            return -1;
        }
        int last = formulas.size() - 1;
        formulas.remove(last);
        ways.remove(last);
        for (Part part : draft) {
            if ((part.stages() >> last & 1) == 1) {
                clearDraft();
                break;
            }
        }
        return last;
    }

    int way(int k, int how) {
        if (missing(k)) {
            return -1;
        }
        return how < 0 || how > 3 ? -2 : ways.set(k, how);
    }

    int stages() {
        return formulas.size();
    }

    int source(int x, int y) {
        return isCell(x, y) ? source[y][x] : 0;
    }

    int value(int k, int x, int y) {
        if (missing(k)) {
            return -1;
        }
        boolean near = -4 <= x && x <= 11 && -4 <= y && y <= 9;
        return near ? formulas.get(k).at(x, y) : 0;
    }

    int total(int k) {
        if (missing(k)) {
            return -1;
        }
        long sum = 0;
        for (int[] row : picture(k)) {
            for (int number : row) {
                sum += number;
            }
        }
        return (int) sum;
    }

    int peak(int k) {
        if (missing(k)) {
            return -1;
        }
        int[][] picture = picture(k);
        int best = 47;
        for (int cell = 46; cell >= 0; cell--) {
            if (picture[cell / 8][cell % 8] >= picture[best / 8][best % 8]) {
                best = cell;
            }
        }
        return best;
    }

    int atLeast(int k, int v) {
        if (missing(k)) {
            return -1;
        }
        int count = 0;
        for (int[] row : picture(k)) {
            for (int number : row) {
                count += number >= v ? 1 : 0;
            }
        }
        return count;
    }

    int differ(int k, int l) {
        return missing(k) || missing(l) ? -1 : others(picture(k), picture(l));
    }

    int changed(int k) {
        return missing(k) ? -1 : others(picture(k), source);
    }
}
