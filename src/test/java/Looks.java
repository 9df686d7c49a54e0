import java.util.ArrayList;
import java.util.List;
import java.util.function.Consumer;
import java.util.function.Function;
import java.util.function.Supplier;

/**
 * Whether a deed can be seen: all that an object answers is compared with
 * what one answers that was made by the same calls without the deed.
 */
final class Looks {
    private static final int[][] FAR_AND_NEAR = {{-4, -4}, {11, -4}, {-4, 9}, {11, 9}, {0, 0}, {3, 2}, {7, 5}};

    private Looks() {
    }

    /** 1 if no answer tells that the deed was done, else 0. */
    static int alike(Supplier<PictureStages> maker, Consumer<PictureStages> deed) {
        return alikeButWays(maker, deed) == 1 && same(maker, deed, Looks::ways) ? 1 : 0;
    }

    /** The same, but the ways may tell it. */
    static int alikeButWays(Supplier<PictureStages> maker, Consumer<PictureStages> deed) {
        boolean same = same(maker, deed, Looks::pictures)
            && same(maker, deed, Looks::room)
            && same(maker, deed, Looks::formulas)
            && same(maker, deed, Looks::afterApply);
        return same ? 1 : 0;
    }

    /** A look uses the draft up, so each one has objects of its own. */
    private static boolean same(Supplier<PictureStages> maker, Consumer<PictureStages> deed,
        Function<PictureStages, List<Integer>> look) {
        PictureStages with = maker.get();
        deed.accept(with);
        List<Integer> seen = look.apply(with);
        List<Integer> due = look.apply(maker.get());
        if (!seen.equals(due)) {
            System.out.println("seen " + seen + ", due " + due);
        }
        return seen.equals(due);
    }

    private static List<Integer> pictures(PictureStages p) {
        List<Integer> seen = new ArrayList<>();
        seen.add(p.stages());
        for (int cell = 0; cell < 48; cell++) {
            seen.add(p.source(cell % 8, cell / 8));
        }
        for (int k = 0; k < 5; k++) {
            seen.addAll(List.of(p.total(k), p.peak(k), p.atLeast(k, 0), p.changed(k), p.differ(k, 0)));
            for (int[] xy : FAR_AND_NEAR) {
                seen.add(p.value(k, xy[0], xy[1]));
            }
        }
        return seen;
    }

    private static List<Integer> ways(PictureStages p) {
        List<Integer> seen = new ArrayList<>();
        for (int k = 0; k < 5; k++) {
            seen.add(p.way(k, 0));
        }
        return seen;
    }

    /** How many tokens the draft still takes, and how many formulas it has. */
    private static List<Integer> room(PictureStages p) {
        List<Integer> seen = new ArrayList<>();
        for (int i = 0; i < 15; i++) {
            seen.add(p.token(Checks.HALF, 0));
        }
        seen.add(p.clearDraft());
        return seen;
    }

    /** What the draft's formulas are, joined to one as far as it takes tokens. */
    private static List<Integer> formulas(PictureStages p) {
        List<Integer> seen = new ArrayList<>();
        for (int i = 0; i < 5; i++) {
            seen.add(p.token(Checks.SUB, 0));
        }
        if (p.stages() == 5) {
            seen.add(p.dropStage());
        }
        seen.add(p.stage());
        seen.addAll(pictures(p));
        return seen;
    }

    private static List<Integer> afterApply(PictureStages p) {
        List<Integer> seen = new ArrayList<>();
        seen.add(p.apply(p.stages() - 1));
        seen.add(p.put(3, 3, -77));
        seen.addAll(pictures(p));
        while (p.stages() > 0) {
            seen.add(p.dropStage());
        }
        seen.add(p.clearDraft());
        return seen;
    }
}
