/** Promises 8 to 10, the sentences that name a bound: DAYS truly and in thought, SOLES that end, STEP 999. */
public final class EdgesOfDaysTest {
    private static final int BAD = SolesByWhatIsTold.BAD, NONE = SolesByWhatIsTold.NONE;
    private static final int LEAST = Refusals.LEAST, MOST = Refusals.MOST;

    public static void main(String[] args) {
        dayOfDays();
        dayRefused();
        dayHowManyWent();
        dayAsSolesLast();
        dayAtTheEndOfTheRoad();
        dayToldAhead();
        dayOfNoPace();
        runOfNone();
        runOfForty();
        runPassesTheLastDay();
        runSocksAndStays();
        runChangesNothing();
        runRefused();
        mendAtBounds();
        mendRefused();
        Checks.end();
    }

    private static SolesByWhatIsTold by(String lasts, String paces, String stops) {
        SolesByWhatIsTold x = new SolesByWhatIsTold();
        x.walker(0, 0, 0);
        Checks.rule(x, lasts, paces, stops);
        return x;
    }

    // ---- promise 8

    private static void dayOfDays() {
        Checks.begin("promise 8: then DAY is 1 more, 999 at most");
        SolesByWhatIsTold x = new SolesByWhatIsTold();
        for (int i = 0; i < 5; i++) {
            Checks.due("day() of none", x.day(), 0);
            Checks.due("count(1)", x.count(1), i + 1);
        }
        x.walker(5, 1, 0);
        x.set(0, 0, 997);
        Checks.due("day() on DAY 997", x.day(), 1);
        Checks.due("day() on DAY 998", x.day(), 1);
        Checks.due("count(1)", x.count(1), 999);
        Checks.due("day() on DAY 999", x.day(), -3);
        Checks.due("count(1)", x.count(1), 999);
        Checks.due("STEP", x.told(0, 5), 2);
        x.set(0, 0, 998);
        Checks.due("day() on DAY 998 again", x.day(), 1);
        Checks.due("STEP", x.told(0, 5), 3);
    }

    private static void dayRefused() {
        Checks.begin("promise 8: STATE, DAY is 999");
        new Refusals(Roads::full).due("day()", SolesByWhatIsTold::day, -3);
        Refusals some = new Refusals(() -> {
            SolesByWhatIsTold x = Roads.some();
            x.set(0, 0, 999);
            return x;
        });
        some.due("day()", SolesByWhatIsTold::day, -3);
        Refusals none = new Refusals(() -> {
            SolesByWhatIsTold x = new SolesByWhatIsTold();
            x.set(0, 0, 999);
            return x;
        });
        none.due("day() of none", SolesByWhatIsTold::day, -3);
    }

    private static void dayHowManyWent() {
        Checks.begin("promise 8: how many went on; who is STOPPED or in SOCKS stays");
        for (int bits = 0; bits < 64; bits++) {
            SolesByWhatIsTold x = new SolesByWhatIsTold();
            Checks.rule(x, "9", "4", "number = 1");
            for (int i = 0; i < 6; i++) {
                boolean goes = (bits >> i & 1) == 1;
                x.walker(0, goes || i % 2 == 0 ? 0 : 1, 0);
                x.set(6, i, goes ? i : i % 2 == 0 ? 9 : 0);
                x.set(5, i, 100 * i);
            }
            Checks.due("day(), of whom " + bits + " go on", x.day(), Integer.bitCount(bits));
            for (int i = 0; i < 6; i++) {
                boolean goes = (bits >> i & 1) == 1;
                Checks.due("STEP of " + i, x.told(i, 5), 100 * i + (goes ? 4 : 0));
                Checks.due("WORN of " + i, x.told(i, 6), goes ? i + 4 : i % 2 == 0 ? 9 : 0);
            }
        }
        SolesByWhatIsTold x = by("9", "4", "1");
        x.set(6, 0, 9);
        Checks.due("day(), STOPPED and in SOCKS", x.day(), 0);
    }

    private static void dayAsSolesLast() {
        Checks.begin("promise 8: as PACE, or as the SOLES last yet, whichever is fewer");
        // LASTS 20, PACE 7: WORN, and by how many STEPS one goes on
        int[][] due = {{0, 7}, {12, 7}, {13, 7}, {14, 6}, {18, 2}, {19, 1}, {20, 0}, {21, 0}, {27, 0}, {9999, 0}};
        for (int[] row : due) {
            SolesByWhatIsTold x = by("20", "7", "0");
            x.set(6, 0, row[0]);
            x.set(5, 0, 50);
            Checks.due("day(), WORN " + row[0], x.day(), row[1] > 0 ? 1 : 0);
            Checks.due("STEP", x.told(0, 5), 50 + row[1]);
            Checks.due("WORN", x.told(0, 6), row[0] + row[1]);
        }
        SolesByWhatIsTold x = by("0", "7", "0");
        Checks.due("day(), LASTS 0", x.day(), 0);
        Checks.due("STEP", x.told(0, 5), 0);
        x = by("1", "99", "0");
        Checks.due("day(), LASTS 1", x.day(), 1);
        Checks.due("STEP", x.told(0, 5), 1);
        x = by("999", "99", "0");
        Checks.due("day(), PACE 99", x.day(), 1);
        Checks.due("STEP", x.told(0, 5), 99);
        Checks.due("WORN", x.told(0, 6), 99);
    }

    private static void dayAtTheEndOfTheRoad() {
        Checks.begin("promise 8: STEP 999 at most");
        // PACE 7: STEP ahead and behind
        int[][] due = {{991, 998}, {992, 999}, {993, 999}, {998, 999}, {999, 999}};
        for (int[] row : due) {
            SolesByWhatIsTold x = by("20", "7", "0");
            x.set(5, 0, row[0]);
            Checks.due("day(), STEP " + row[0] + ": one goes on", x.day(), 1);
            Checks.due("STEP", x.told(0, 5), row[1]);
            Checks.due("WORN", x.told(0, 6), 7);
        }
        SolesByWhatIsTold x = by("20", "7", "0");
        x.set(5, 0, 998);
        x.set(6, 0, 18);
        x.day();
        Checks.due("STEP, SOLES last 2 yet", x.told(0, 5), 999);
        Checks.due("WORN", x.told(0, 6), 20);
        Checks.due("day(), in SOCKS", x.day(), 0);
    }

    private static void dayToldAhead() {
        Checks.begin("promise 8: all told ahead of it; all WALKERS, then DAY is 1 more");
        SolesByWhatIsTold x = new SolesByWhatIsTold();
        for (int i = 0; i < 6; i++) {
            x.walker(0, 0, 0);
        }
        Checks.rule(x, "999", "day + 3", "day = 2 or day = 3");
        int[] went = {6, 6, 0, 0, 6};
        int[] steps = {3, 7, 7, 7, 14};
        for (int i = 0; i < 5; i++) {
            Checks.due("day() on DAY " + i, x.day(), went[i]);
            for (int one = 0; one < 6; one++) {
                Checks.due("STEP of " + one, x.told(one, 5), steps[i]);
            }
        }
        // PACE and STOPPED by STEP and WORN as they were ahead
        x = by("999", "1 + step + worn", "20 < step");
        int[] by = {1, 4, 13, 40, 40};
        for (int i = 0; i < 5; i++) {
            Checks.due("day()", x.day(), i < 4 ? 1 : 0);
            Checks.due("STEP", x.told(0, 5), by[i]);
        }
        // LASTS by WORN: 8, then 8 less 2 times 3
        x = by("8 - 2 * worn", "3", "0");
        Checks.due("day()", x.day(), 1);
        Checks.due("WORN", x.told(0, 6), 3);
        Checks.due("day(), LASTS 2", x.day(), 0);
    }

    private static void dayOfNoPace() {
        Checks.begin("promise 8: PACE 0 is no staying: STOPPED or in SOCKS alone is");
        SolesByWhatIsTold x = by("9", "0", "0");
        x.walker(5, 0, 0);
        Checks.due("day()", x.day(), 2);
        Checks.due("STEP of a WALKER", x.told(0, 5), 0);
        Checks.due("STEP of a DOG", x.told(1, 5), 0);
        Checks.due("WORN of a DOG", x.told(1, 6), 0);
        Checks.due("run(1, 40, 2)", x.run(1, 40, 2), NONE);
        x.set(6, 1, 999);
        Checks.due("run(1, 40, 2), in SOCKS", x.run(1, 40, 2), 0);
        Checks.due("day()", x.day(), 1);
    }

    // ---- promise 9

    private static void runOfNone() {
        Checks.begin("promise 9: of 0 DAYS");
        SolesByWhatIsTold x = by("9", "4", "1");
        x.set(5, 0, 999);
        x.set(6, 0, 9999);
        Checks.due("STEP at last", x.run(0, 0, 0), 999);
        Checks.due("first in SOCKS: in none, though one is now", x.run(0, 0, 1), NONE);
        Checks.due("stays first: in none, though one is STOPPED now", x.run(0, 0, 2), NONE);
        Checks.due("WORN at last", x.run(0, 0, 3), 9999);
        Checks.due("of 1 DAY, first in SOCKS", x.run(0, 1, 1), 0);
        Checks.due("of 1 DAY, stays first", x.run(0, 1, 2), 0);
    }

    private static void runOfForty() {
        Checks.begin("promise 9: 0 .. 40 DAYS, from 0");
        SolesByWhatIsTold x = by("40", "1", "0");
        for (int n = 0; n <= 40; n++) {
            Checks.due("run(0, " + n + ", 0)", x.run(0, n, 0), n);
            Checks.due("run(0, " + n + ", 3)", x.run(0, n, 3), n);
            Checks.due("run(0, " + n + ", 1), SOCKS behind the last of 40", x.run(0, n, 1), n < 40 ? NONE : 39);
            Checks.due("run(0, " + n + ", 2)", x.run(0, n, 2), NONE);
        }
        x = by("39", "1", "0");
        Checks.due("run(0, 40, 0), LASTS 39", x.run(0, 40, 0), 39);
        Checks.due("run(0, 40, 1)", x.run(0, 40, 1), 38);
        Checks.due("run(0, 40, 2), stays in the last of 40", x.run(0, 40, 2), 39);
        Checks.due("run(0, 39, 2)", x.run(0, 39, 2), NONE);
        x = by("41", "1", "0");
        Checks.due("run(0, 40, 1), LASTS 41", x.run(0, 40, 1), NONE);
        Checks.due("run(0, 40, 2)", x.run(0, 40, 2), NONE);
        x = by("999", "99", "0");
        Checks.due("run(0, 10, 0)", x.run(0, 10, 0), 990);
        Checks.due("run(0, 11, 0), as the SOLES last", x.run(0, 11, 0), 999);
        Checks.due("run(0, 11, 1)", x.run(0, 11, 1), 10);
        x.set(5, 0, 11);
        Checks.due("run(0, 10, 0), STEP 999 at most", x.run(0, 10, 0), 999);
        Checks.due("run(0, 10, 3), WORN goes on", x.run(0, 10, 3), 990);
        Checks.due("run(0, 40, 3)", x.run(0, 40, 3), 999);
    }

    private static void runPassesTheLastDay() {
        Checks.begin("promise 9: in thought DAY may pass 999");
        SolesByWhatIsTold x = by("999", "day - 998", "day = 1038");
        x.set(0, 0, 999);
        Checks.due("run(0, 1, 0)", x.run(0, 1, 0), 1);
        Checks.due("run(0, 3, 0)", x.run(0, 3, 0), 1 + 2 + 3);
        Checks.due("run(0, 39, 0)", x.run(0, 39, 0), 39 * 40 / 2);
        Checks.due("run(0, 39, 2)", x.run(0, 39, 2), NONE);
        Checks.due("run(0, 40, 2), of which the last is DAY 1038", x.run(0, 40, 2), 39);
        Checks.due("day()", x.day(), -3);
        Checks.due("count(1)", x.count(1), 999);
        // behind the last of 40 it is DAY 1039
        x = by("999 * (day < 1039)", "1", "0");
        x.set(0, 0, 999);
        Checks.due("run(0, 40, 1)", x.run(0, 40, 1), 39);
        Checks.due("run(0, 40, 2)", x.run(0, 40, 2), NONE);
        x = by("999 * (day < 1040)", "1", "0");
        x.set(0, 0, 999);
        Checks.due("run(0, 40, 1)", x.run(0, 40, 1), NONE);
    }

    private static void runSocksAndStays() {
        Checks.begin("promise 9: first in SOCKS behind it, stays first");
        // by nothing but DAY: a SAILOR who brings nothing along stays on DAY 0 alone, in SOCKS
        SolesByWhatIsTold y = new SolesByWhatIsTold();
        y.walker(1, 0, 0);
        Checks.rule(y, "day", "day", "day");
        Checks.due("run(0, 1, 0)", y.run(0, 1, 0), 0);
        Checks.due("run(0, 2, 0)", y.run(0, 2, 0), 1);
        Checks.due("run(0, 40, 0)", y.run(0, 40, 0), 39);
        Checks.due("run(0, 40, 1)", y.run(0, 40, 1), NONE);
        Checks.due("run(0, 40, 2)", y.run(0, 40, 2), 0);
        // who is STOPPED with fresh SOLES is not in SOCKS
        SolesByWhatIsTold x = by("9", "4", "day = 1");
        Checks.due("run(0, 40, 1)", x.run(0, 40, 1), 3);
        Checks.due("run(0, 40, 2)", x.run(0, 40, 2), 1);
        Checks.due("run(0, 1, 2)", x.run(0, 1, 2), NONE);
        Checks.due("run(0, 2, 2)", x.run(0, 2, 2), 1);
        // in SOCKS for one DAY alone: the first of them is told, and one goes on then
        x = by("999 * (not day = 3 and not day = 5)", "2", "0");
        Checks.due("run(0, 40, 1)", x.run(0, 40, 1), 2);
        Checks.due("run(0, 40, 2)", x.run(0, 40, 2), 3);
        Checks.due("run(0, 4, 0)", x.run(0, 4, 0), 6);
        Checks.due("run(0, 5, 0)", x.run(0, 5, 0), 8);
        Checks.due("run(0, 7, 0)", x.run(0, 7, 0), 10);
        // in SOCKS ahead of the first DAY, not behind it
        x = by("999 * (0 < day)", "2", "0");
        Checks.due("run(0, 40, 1)", x.run(0, 40, 1), NONE);
        Checks.due("run(0, 40, 2)", x.run(0, 40, 2), 0);
        Checks.due("run(0, 2, 0)", x.run(0, 2, 0), 2);
    }

    private static void runChangesNothing() {
        Checks.begin("promise 9: in thought");
        Refusals some = new Refusals(Roads::some);
        Refusals full = new Refusals(Roads::full);
        // 0: PACE 5, LASTS 63; 1: a DOG, PACE 2; 2: a DESERTER, PACE twice 9 and 3, LASTS 63 and 7
        int[][] due = {{21 + 25, NONE, NONE, 2 + 25}, {30 + 10, NONE, NONE, 10}, {70, 3, 4, 70}};
        for (int one = 0; one < 3; one++) {
            for (int what = 0; what < 4; what++) {
                int o = one;
                int w = what;
                some.due("run(" + o + ", 5, " + w + ")", x -> x.run(o, 5, w), due[o][w]);
            }
        }
        full.due("run(0, 40, 0)", x -> x.run(0, 40, 0), 360);
    }

    private static void runRefused() {
        Checks.begin("promise 9: BAD");
        Refusals some = new Refusals(Roads::some);
        Refusals full = new Refusals(Roads::full);
        int[] ones = {LEAST, -1, 3, 256, MOST};
        for (int one : ones) {
            some.due("run(" + one + ", 0, 0)", x -> x.run(one, 0, 0), BAD);
        }
        full.due("run(6, 0, 0)", x -> x.run(6, 0, 0), BAD);
        int[] days = {LEAST, -1, 41, 256, MOST};
        for (int n : days) {
            for (int what = 0; what < 4; what++) {
                int w = what;
                some.due("run(2, " + n + ", " + w + ")", x -> x.run(2, n, w), BAD);
            }
        }
        int[] whats = {LEAST, -1, 4, 256, MOST};
        for (int what : whats) {
            some.due("run(2, 40, " + what + ")", x -> x.run(2, 40, what), BAD);
        }
    }

    // ---- promise 10

    private static void mendAtBounds() {
        Checks.begin("promise 10: fresh SOLES, truly: what they were WORN");
        int[] worn = {0, 1, 9, 10, 9999};
        for (int was : worn) {
            SolesByWhatIsTold x = by("10", "4", "0");
            x.walker(1, 2, 3);
            x.set(5, 0, 999);
            x.set(6, 0, was);
            x.set(6, 1, 77);
            Checks.due("mend(0)", x.mend(0), was);
            Checks.due("mend(0) again", x.mend(0), 0);
            Checks.due("WORN", x.told(0, 6), 0);
            Checks.due("in SOCKS", x.told(0, 13), 0);
            Checks.due("STEP is as it was", x.told(0, 5), 999);
            Checks.due("another one's are as they were", x.told(1, 6), 77);
            Checks.due("mend(1), the last", x.mend(1), 77);
        }
        SolesByWhatIsTold x = by("0", "4", "0");
        Checks.due("mend(0), LASTS 0", x.mend(0), 0);
        Checks.due("in SOCKS yet, LASTS 0", x.told(0, 13), 1);
    }

    private static void mendRefused() {
        Checks.begin("promise 10: BAD");
        Refusals empty = new Refusals(Roads::empty);
        Refusals some = new Refusals(Roads::some);
        Refusals full = new Refusals(Roads::full);
        int[] ones = {LEAST, -1, 6, 256, MOST};
        for (int one : ones) {
            empty.due("mend(" + one + ")", x -> x.mend(one), BAD);
            some.due("mend(" + one + ")", x -> x.mend(one), BAD);
            full.due("mend(" + one + ")", x -> x.mend(one), BAD);
        }
        empty.due("mend(0) of none", x -> x.mend(0), BAD);
        some.due("mend(3) of three", x -> x.mend(3), BAD);
    }
}
