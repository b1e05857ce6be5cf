import java.util.ArrayList;
import java.util.List;
import java.util.function.Supplier;
import java.util.function.ToLongFunction;

/** Calls that are refused: what they answer, and that all else answers then as if they had not been. */
final class Refusals {
    static final int BAD = SolesByWhatIsTold.BAD, STATE = SolesByWhatIsTold.STATE, FULL = SolesByWhatIsTold.FULL;
    static final int NOTHING = -11, OUTSIDE = -12, UNLIKE = -13, BELOW = -14;
    /** What lies far outside of all bounds, and might wrap. */
    static final int LEAST = Integer.MIN_VALUE, MOST = Integer.MAX_VALUE;

    private final Supplier<SolesByWhatIsTold> road;

    Refusals(Supplier<SolesByWhatIsTold> road) {
        this.road = road;
    }

    void due(String call, ToLongFunction<SolesByWhatIsTold> refused, long wanted) {
        SolesByWhatIsTold x = road.get();
        Checks.due(call, refused.applyAsLong(x), wanted);
        List<Long> behind = answers(x);
        List<Long> without = answers(road.get());
        int i = 0;
        while (i < behind.size() && behind.get(i).equals(without.get(i))) {
            i++;
        }
        Checks.due(call + " changes nothing: the first answer that is otherwise", i, without.size());
    }

    /** Answers that tell all that the object keeps; the last of them change it. */
    private static List<Long> answers(SolesByWhatIsTold x) {
        List<Long> all = new ArrayList<>();
        for (int what = 0; what < 7; what++) {
            all.add((long) x.count(what));
        }
        for (int thing = 0; thing < 8; thing++) {
            all.add((long) x.told(thing, 1));
        }
        for (int one = 0; one < 6; one++) {
            for (int what = 2; what < 14; what++) {
                all.add((long) x.told(one, what));
            }
            all.add((long) x.run(one, 40, 0));
        }
        for (int sheet = 0; sheet < 4; sheet++) {
            for (int sort = 0; sort < 3; sort++) {
                all.add((long) x.walkers(sheet, sort, 0, 0));
            }
            for (int n : new int[] {0, 1, 4, 5, 6, 39, 40}) {
                all.add((long) x.copy(sheet, n, sheet, n, 0));
            }
            all.add((long) x.tells(sheet, 0, 0));
            all.add((long) x.tells(sheet, 1, 0));
        }
        all.add((long) x.text());
        all.add((long) x.count(4));
        all.add((long) x.count(5));
        all.add((long) x.back());
        for (int what = 0; what < 7; what++) {
            all.add((long) x.count(what));
            all.add((long) x.told(0, what));
            all.add((long) x.told(2, what));
        }
        return all;
    }
}
