/** Promises 11 to 16, the sentences that name a bound: like ones, NONE, 40 DAYS, STEP k, weights 0 .. 99. */
public final class EdgesOfBestTest {
    private static final int BAD = SolesByWhatIsTold.BAD, NONE = SolesByWhatIsTold.NONE;
    private static final int LEAST = Refusals.LEAST, MOST = Refusals.MOST;

    public static void main(String[] args) {
        farOfSets();
        farOfLikeOnes();
        farOfDays();
        farAtTheEndOfTheRoad();
        farRefused();
        leastOfSteps();
        leastOfLikeOnes();
        leastOfDays();
        leastRefused();
        heaviestOfWeights();
        heaviestOfThings();
        heaviestOfSteps();
        heaviestRefused();
        awayOfNow();
        awayOfDays();
        awayOfLikeOnes();
        awayRefused();
        keeperOfMore();
        keeperOfLikeOnes();
        keeperOfDays();
        keeperRefused();
        spareOfTold();
        spareOfDays();
        spareRefused();
        nothingIsOtherwise();
        Checks.end();
    }

    private static SolesByWhatIsTold by(int ties, String lasts, String paces, String stops) {
        SolesByWhatIsTold x = new SolesByWhatIsTold();
        x.walker(0, 0, ties);
        Checks.rule(x, lasts, paces, stops);
        return x;
    }

    private static void far(SolesByWhatIsTold x, int n, int bits, int step) {
        Checks.due("far(0, " + n + ", 0)", x.far(0, n, 0), bits);
        Checks.due("far(0, " + n + ", 1)", x.far(0, n, 1), step);
    }

    private static void least(SolesByWhatIsTold x, int k, int bits, int weight) {
        Checks.due("least(0, " + k + ", 0)", x.least(0, k, 0), bits);
        Checks.due("least(0, " + k + ", 1)", x.least(0, k, 1), weight);
    }

    // ---- promise 11

    private static void farOfSets() {
        Checks.begin("promise 11: of all that one could TELL, sets of TIES");
        for (int thing = 0; thing < 8; thing++) {
            // one THING alone is a TIE, but all are TOLD
            SolesByWhatIsTold x = by(1 << thing, "told", "99", "0");
            x.set(4, 0, 255);
            far(x, 40, 1 << thing, 10);
            // all but one
            x.set(3, 0, 255 - (1 << thing));
            x.set(4, 0, 0);
            far(x, 40, 255 - (1 << thing), 70);
        }
        SolesByWhatIsTold x = by(0, "5 + told", "99", "0");
        x.set(4, 0, 255);
        far(x, 40, 0, 5);
        x.set(3, 0, 255);
        far(x, 40, 255, 85);
        // what is TOLD now does not matter
        for (int told = 0; told < 256; told += 51) {
            x.set(4, 0, told);
            far(x, 40, 255, 85);
            Checks.due("TOLD is as it was", x.told(0, 4), told);
        }
        // the heaviest of all
        for (int thing = 0; thing < 8; thing++) {
            x.set(1, thing, 99);
        }
        far(x, 40, 255, 797);
        x = by(255, "792 - told", "99", "0");
        far(x, 40, 0, 792);
        x.set(1, 7, 0);
        far(x, 40, 0, 792);
    }

    private static void farOfLikeOnes() {
        Checks.begin("promise 11: of like ones the least weight, then the least as bits");
        // any that weighs 12 or more: 13 alone is the least as bits, but heavier than 7 and 5, and 8 and 4
        SolesByWhatIsTold x = by(31, "50 * (11 < told)", "9", "0");
        int[] weights = {13, 8, 7, 5, 4};
        for (int thing = 0; thing < 5; thing++) {
            x.set(1, thing, weights[thing]);
        }
        far(x, 40, 4 + 8, 50);
        x.set(3, 0, 15);
        far(x, 40, 4 + 8, 50);
        x.set(3, 0, 16 + 8 + 2 + 1);
        far(x, 40, 2 + 16, 50);
        x.set(3, 0, 31);
        x.set(1, 4, 5);
        // 7 and 5, of which there are two
        far(x, 40, 4 + 8, 50);
        x.set(1, 0, 12);
        far(x, 40, 1, 50);
        // weights of 0 are of like weight: the least as bits
        x = by(255, "50 * (told = 10)", "9", "0");
        for (int thing = 0; thing < 7; thing++) {
            x.set(1, thing, 0);
        }
        far(x, 40, 128, 50);
        x.set(1, 3, 10);
        far(x, 40, 8, 50);
        // the furthest goes ahead of the lightest
        x = by(3, "10 + told", "99", "0");
        x.set(1, 0, 1);
        x.set(1, 1, 99);
        far(x, 40, 3, 110);
        // in one DAY 99 STEPS are as far as one gets, by the second alone
        far(x, 1, 2, 99);
        x.set(1, 1, 89);
        far(x, 1, 2, 99);
        x.set(1, 1, 88);
        far(x, 1, 3, 99);
        x.set(1, 1, 87);
        far(x, 1, 3, 98);
        x.set(1, 0, 0);
        far(x, 1, 2, 97);
    }

    private static void farOfDays() {
        Checks.begin("promise 11: n DAYS, 0 .. 40");
        SolesByWhatIsTold x = by(255, "999", "20 - untold", "0");
        // 0 DAYS: all are alike, and no bits are the least
        far(x, 0, 0, 0);
        x.set(5, 0, 999);
        far(x, 0, 0, 999);
        x.set(5, 0, 0);
        far(x, 1, 255, 20);
        far(x, 39, 255, 780);
        far(x, 40, 255, 800);
        // on DAY 39, the last of 40, one goes on by what is TOLD; ahead none does
        x = by(1, "999", "7 * (0 < told)", "day < 39");
        far(x, 39, 0, 0);
        far(x, 40, 1, 7);
        // all the same way
        x = by(1, "999", "7", "0");
        far(x, 40, 0, 280);
        // in thought DAY may pass 999
        x = by(1, "999", "told", "day < 1038");
        x.set(0, 0, 999);
        far(x, 39, 0, 0);
        far(x, 40, 1, 10);
    }

    private static void farAtTheEndOfTheRoad() {
        Checks.begin("promise 11: STEP 999 at most");
        SolesByWhatIsTold x = by(3, "999", "20 - untold + 5", "0");
        x.set(5, 0, 995);
        // 5, 15, 15, 25: all come to 999, so none need be TOLD
        far(x, 1, 0, 999);
        x.set(5, 0, 990);
        far(x, 1, 1, 999);
        x.set(5, 0, 975);
        far(x, 1, 3, 999);
        x.set(5, 0, 974);
        far(x, 1, 3, 999);
        x.set(5, 0, 973);
        far(x, 1, 3, 998);
        // in SOCKS whatever is TOLD
        x.set(6, 0, 999);
        far(x, 40, 0, 973);
    }

    private static void farRefused() {
        Checks.begin("promise 11: BAD");
        Refusals some = new Refusals(Roads::some);
        Refusals full = new Refusals(Roads::full);
        int[] ones = {LEAST, -1, 3, 256, MOST};
        for (int one : ones) {
            some.due("far(" + one + ", 0, 0)", x -> x.far(one, 0, 0), BAD);
        }
        full.due("far(6, 0, 0)", x -> x.far(6, 0, 0), BAD);
        int[] days = {LEAST, -1, 41, 256, MOST};
        for (int n : days) {
            some.due("far(2, " + n + ", 0)", x -> x.far(2, n, 0), BAD);
            some.due("far(2, " + n + ", 1)", x -> x.far(2, n, 1), BAD);
        }
        int[] whats = {LEAST, -1, 2, 256, MOST};
        for (int what : whats) {
            some.due("far(2, 40, " + what + ")", x -> x.far(2, 40, what), BAD);
        }
    }

    // ---- promise 12

    private static void leastOfSteps() {
        Checks.begin("promise 12: at STEP k, 0 .. 999, or further; NONE");
        SolesByWhatIsTold x = by(7, "told", "99", "0");
        x.set(1, 0, 4);
        x.set(1, 1, 20);
        x.set(1, 2, 99);
        least(x, 0, 0, 0);
        least(x, 1, 1, 4);
        least(x, 4, 1, 4);
        least(x, 5, 2, 20);
        least(x, 20, 2, 20);
        least(x, 21, 3, 24);
        least(x, 24, 3, 24);
        least(x, 25, 4, 99);
        least(x, 123, 7, 123);
        least(x, 124, NONE, NONE);
        least(x, 999, NONE, NONE);
        // what is TOLD now does not matter
        x.set(4, 0, 255);
        least(x, 0, 0, 0);
        least(x, 5, 2, 20);
        // where one is now
        x.set(5, 0, 999);
        least(x, 999, 0, 0);
        x.set(5, 0, 998);
        least(x, 999, 1, 4);
        x.set(6, 0, 200);
        least(x, 998, 0, 0);
        least(x, 999, NONE, NONE);
        // sets of TIES alone
        x.set(3, 0, 0);
        x.set(6, 0, 0);
        least(x, 998, 0, 0);
        least(x, 999, NONE, NONE);
        x.set(3, 0, 128);
        least(x, 999, 128, 10);
    }

    private static void leastOfLikeOnes() {
        Checks.begin("promise 12: of least weight; of like ones the least as bits");
        SolesByWhatIsTold x = by(31, "50 * (11 < told)", "9", "0");
        int[] weights = {13, 8, 7, 5, 4};
        for (int thing = 0; thing < 5; thing++) {
            x.set(1, thing, weights[thing]);
        }
        least(x, 50, 4 + 8, 12);
        x.set(3, 0, 27);
        least(x, 50, 2 + 16, 12);
        x.set(3, 0, 31);
        // a heavier one is further, but not the least
        Checks.rule(x, "told * 9", "99", "0");
        least(x, 50, 4, 7);
        least(x, 36, 16, 4);
        least(x, 37, 8, 5);
        // 13 by itself, 8 and 5: the least as bits
        least(x, 13 * 9, 1, 13);
        x.set(1, 0, 14);
        least(x, 13 * 9, 2 + 8, 13);
        x.set(1, 0, 0);
        least(x, 13 * 9, 2 + 8, 13);
        // THINGS that weigh nothing are not told, whatever they would do
        least(x, 0, 0, 0);
        x.set(1, 4, 0);
        least(x, 45, 8, 5);
        // of three that weigh nothing, none is told where one must weigh 5
        x.set(1, 3, 0);
        x.set(1, 1, 5);
        least(x, 45, 2, 5);
        // to tell nothing may be all there is
        Checks.rule(x, "50 * (told = 0)", "99", "0");
        least(x, 50, 0, 0);
    }

    private static void leastOfDays() {
        Checks.begin("promise 12: behind 40 DAYS");
        SolesByWhatIsTold x = by(1, "999", "1 + (0 < told)", "0");
        least(x, 40, 0, 0);
        least(x, 41, 1, 10);
        least(x, 80, 1, 10);
        least(x, 81, NONE, NONE);
        x.set(5, 0, 919);
        least(x, 999, 1, 10);
        x.set(5, 0, 918);
        least(x, 999, NONE, NONE);
        x.set(5, 0, 958);
        least(x, 998, 0, 0);
        least(x, 999, 1, 10);
        // further within the 40 DAYS is as far at last
        x = by(1, "6", "3", "0");
        least(x, 6, 0, 0);
        least(x, 7, NONE, NONE);
        x = by(1, "999", "9 * told", "not day = 39");
        least(x, 1, 1, 10);
        least(x, 90, 1, 10);
        x = by(1, "999", "9 * told", "not day = 40");
        least(x, 1, NONE, NONE);
    }

    private static void leastRefused() {
        Checks.begin("promise 12: BAD");
        Refusals some = new Refusals(Roads::some);
        Refusals full = new Refusals(Roads::full);
        int[] ones = {LEAST, -1, 3, 256, MOST};
        for (int one : ones) {
            some.due("least(" + one + ", 0, 0)", x -> x.least(one, 0, 0), BAD);
        }
        full.due("least(6, 0, 0)", x -> x.least(6, 0, 0), BAD);
        int[] steps = {LEAST, -1, 1000, 65536, MOST};
        for (int k : steps) {
            some.due("least(2, " + k + ", 0)", x -> x.least(2, k, 0), BAD);
            some.due("least(2, " + k + ", 1)", x -> x.least(2, k, 1), BAD);
        }
        int[] whats = {LEAST, -1, 2, 256, MOST};
        for (int what : whats) {
            some.due("least(2, 0, " + what + ")", x -> x.least(2, 0, what), BAD);
        }
    }

    // ---- promise 13

    private static void heaviestOfWeights() {
        Checks.begin("promise 13: the most it could weigh, 0 .. 99");
        for (int most = 0; most < 99; most++) {
            SolesByWhatIsTold x = by(1, "20", "1", most + " < untold");
            x.set(1, 0, most % 7);
            Checks.due("heaviest(0, 0, 20), up to " + most, x.heaviest(0, 0, 20), most);
            Checks.due("heaviest(0, 0, 21)", x.heaviest(0, 0, 21), NONE);
            Checks.due("it weighs what it did", x.told(0, 1), most % 7);
        }
        SolesByWhatIsTold x = by(1, "20", "1", "99 < untold");
        Checks.due("heaviest(0, 0, 20), any", x.heaviest(0, 0, 20), 99);
        Checks.rule(x, "20", "1", "98 < untold");
        Checks.due("heaviest(0, 0, 20), up to 98", x.heaviest(0, 0, 20), 98);
        Checks.rule(x, "20", "1", "1");
        Checks.due("heaviest(0, 0, 20), none", x.heaviest(0, 0, 20), NONE);
        Checks.due("heaviest(0, 0, 0), STOPPED", x.heaviest(0, 0, 0), 99);
        // the most, though some that weigh less would be too heavy
        Checks.rule(x, "20", "1", "not untold = 0 and not untold = 73");
        Checks.due("heaviest(0, 0, 20), 73 or 0", x.heaviest(0, 0, 20), 73);
        Checks.rule(x, "20", "1", "untold < 99");
        Checks.due("heaviest(0, 0, 20), 99 alone", x.heaviest(0, 0, 20), 99);
    }

    private static void heaviestOfThings() {
        Checks.begin("promise 13: a THING, what is TOLD as it is");
        for (int thing = 0; thing < 8; thing++) {
            SolesByWhatIsTold x = by(255, "20", "1", "90 < untold");
            Checks.due("heaviest(thing, 0, 20), 70 by the others", x.heaviest(thing, 0, 20), 20);
            x.set(4, 0, 255 - (1 << thing));
            Checks.due("heaviest(thing, 0, 20), others TOLD", x.heaviest(thing, 0, 20), 90);
            x.set(4, 0, 255);
            Checks.due("heaviest(thing, 0, 20), TOLD", x.heaviest(thing, 0, 20), 99);
            x.set(4, 0, 0);
            x.set(3, 0, 255 - (1 << thing));
            Checks.due("heaviest(thing, 0, 20), no TIE", x.heaviest(thing, 0, 20), 99);
            x.set(1, thing == 0 ? 1 : 0, 31);
            Checks.due("heaviest(thing, 0, 20), no TIE, the others too heavy", x.heaviest(thing, 0, 20), NONE);
            // what is TOLD makes SOLES last
            x = by(1 << thing, "99 - told", "9", "0");
            x.set(4, 0, 1 << thing);
            Checks.due("heaviest(thing, 0, 99)", x.heaviest(thing, 0, 99), 0);
            Checks.due("heaviest(thing, 0, 50)", x.heaviest(thing, 0, 50), 49);
            Checks.due("heaviest(thing, 0, 100)", x.heaviest(thing, 0, 100), NONE);
            Checks.due("heaviest(thing, 0, 0)", x.heaviest(thing, 0, 0), 99);
        }
    }

    private static void heaviestOfSteps() {
        Checks.begin("promise 13: at STEP k, 0 .. 999, or further behind 40 DAYS");
        SolesByWhatIsTold x = by(1, "999", "1 + (untold < 50)", "0");
        Checks.due("heaviest(0, 0, 40)", x.heaviest(0, 0, 40), 99);
        Checks.due("heaviest(0, 0, 41)", x.heaviest(0, 0, 41), 49);
        Checks.due("heaviest(0, 0, 80)", x.heaviest(0, 0, 80), 49);
        Checks.due("heaviest(0, 0, 81)", x.heaviest(0, 0, 81), NONE);
        x.set(5, 0, 919);
        Checks.due("heaviest(0, 0, 999), STEP 919", x.heaviest(0, 0, 999), 49);
        x.set(5, 0, 918);
        Checks.due("heaviest(0, 0, 999), STEP 918", x.heaviest(0, 0, 999), NONE);
        x.set(5, 0, 999);
        Checks.due("heaviest(0, 0, 999), STEP 999", x.heaviest(0, 0, 999), 99);
        x.set(5, 0, 0);
        x.set(6, 0, 980);
        Checks.due("heaviest(0, 0, 19), SOLES last 19 yet", x.heaviest(0, 0, 19), 99);
        Checks.due("heaviest(0, 0, 20)", x.heaviest(0, 0, 20), NONE);
        x = by(1, "999", "1", "day < 39 + (untold = 7)");
        Checks.due("heaviest(0, 0, 1), by the last of 40 DAYS", x.heaviest(0, 0, 1), 99);
        x.set(0, 0, 999);
        Checks.rule(x, "999", "1", "day < 1038 + (7 < untold)");
        Checks.due("heaviest(0, 0, 1), by DAY 1038", x.heaviest(0, 0, 1), 7);
    }

    private static void heaviestRefused() {
        Checks.begin("promise 13: BAD");
        Refusals some = new Refusals(Roads::some);
        Refusals full = new Refusals(Roads::full);
        int[] things = {LEAST, -1, 8, 256, MOST};
        for (int thing : things) {
            some.due("heaviest(" + thing + ", 0, 0)", x -> x.heaviest(thing, 0, 0), BAD);
        }
        int[] ones = {LEAST, -1, 3, 256, MOST};
        for (int one : ones) {
            some.due("heaviest(7, " + one + ", 0)", x -> x.heaviest(7, one, 0), BAD);
        }
        full.due("heaviest(7, 6, 0)", x -> x.heaviest(7, 6, 0), BAD);
        int[] steps = {LEAST, -1, 1000, 65536, MOST};
        for (int k : steps) {
            some.due("heaviest(7, 2, " + k + ")", x -> x.heaviest(7, 2, k), BAD);
        }
    }

    // ---- promise 14

    private static void away(SolesByWhatIsTold x, int k, int one, int days) {
        Checks.due("away(" + k + ", 0)", x.away(k, 0), one);
        Checks.due("away(" + k + ", 1)", x.away(k, 1), days);
    }

    private static void awayOfNow() {
        Checks.begin("promise 14: 0: now; NONE of none");
        SolesByWhatIsTold x = new SolesByWhatIsTold();
        away(x, 0, NONE, NONE);
        away(x, 999, NONE, NONE);
        x.walker(5, 9, 0);
        away(x, 0, 0, 0);
        x.walker(5, 0, 0);
        x.set(5, 1, 9);
        // who is there now is ahead of who would be behind 1 DAY
        away(x, 9, 1, 0);
        away(x, 10, 0, 2);
        x.set(5, 0, 999);
        away(x, 999, 0, 0);
        // a STOPPED one is there now, too
        x = by(0, "0", "0", "1");
        x.set(5, 0, 50);
        away(x, 50, 0, 0);
        away(x, 51, NONE, NONE);
    }

    private static void awayOfDays() {
        Checks.begin("promise 14: behind 1, 2, .. 40 DAYS; at STEP k, 0 .. 999, or further");
        SolesByWhatIsTold x = by(0, "999", "2", "0");
        for (int k = 0; k <= 80; k++) {
            away(x, k, 0, (k + 1) / 2);
        }
        away(x, 81, NONE, NONE);
        away(x, 999, NONE, NONE);
        x.set(5, 0, 919);
        away(x, 999, 0, 40);
        x.set(5, 0, 918);
        away(x, 998, 0, 40);
        away(x, 999, NONE, NONE);
        // in thought DAY may pass 999
        x = by(0, "999", "2", "day < 1038");
        x.set(0, 0, 999);
        away(x, 2, 0, 40);
        away(x, 3, NONE, NONE);
        // as the SOLES last
        x = by(0, "5", "2", "0");
        away(x, 5, 0, 3);
        away(x, 6, NONE, NONE);
    }

    private static void awayOfLikeOnes() {
        Checks.begin("promise 14: the WALKER who is first; of like ones by numbers");
        SolesByWhatIsTold x = new SolesByWhatIsTold();
        for (int i = 0; i < 6; i++) {
            x.walker(5, 5, 0);
        }
        away(x, 0, 0, 0);
        away(x, 5, 0, 1);
        away(x, 200, 0, 40);
        away(x, 201, NONE, NONE);
        for (int last = 1; last < 6; last++) {
            x.set(2, last, 5 + (last > 2 ? 1 : 0));
        }
        // 6 STEPS a DAY: 3, 4 and 5; the first of these
        away(x, 5, 0, 1);
        away(x, 6, 3, 1);
        away(x, 10, 0, 2);
        away(x, 11, 3, 2);
        // one STEP ahead now makes the last one the first, but where it is as late
        x.set(5, 5, 1);
        away(x, 6, 3, 1);
        away(x, 7, 5, 1);
        away(x, 12, 3, 2);
        away(x, 13, 5, 2);
        away(x, 241, 5, 40);
        away(x, 242, NONE, NONE);
        away(x, 1, 5, 0);
    }

    private static void awayRefused() {
        Checks.begin("promise 14: BAD");
        Refusals[] roads = {new Refusals(Roads::empty), new Refusals(Roads::some), new Refusals(Roads::full)};
        for (Refusals road : roads) {
            int[] steps = {LEAST, -1, 1000, 65536, MOST};
            for (int k : steps) {
                road.due("away(" + k + ", 0)", x -> x.away(k, 0), BAD);
                road.due("away(" + k + ", 1)", x -> x.away(k, 1), BAD);
            }
            int[] whats = {LEAST, -1, 2, 256, MOST};
            for (int what : whats) {
                road.due("away(0, " + what + ")", x -> x.away(0, what), BAD);
            }
        }
    }

    // ---- promise 15

    private static void keeper(SolesByWhatIsTold x, int n, int thing, int steps) {
        Checks.due("keeper(" + n + ", 0)", x.keeper(n, 0), thing);
        Checks.due("keeper(" + n + ", 1)", x.keeper(n, 1), steps);
    }

    private static void keeperOfMore() {
        Checks.begin("promise 15: if more than so; NONE, STEPS of all as so");
        SolesByWhatIsTold x = new SolesByWhatIsTold();
        keeper(x, 40, NONE, 0);
        for (int thing = 0; thing < 8; thing++) {
            x = by(1 << thing, "999", "50 - untold", "0");
            x.set(5, 0, 100);
            keeper(x, 1, thing, 150);
            // by one STEP
            x.set(1, thing, 1);
            keeper(x, 1, thing, 150);
            // it weighs nothing as it is
            x.set(1, thing, 0);
            keeper(x, 1, NONE, 150);
            x.set(1, thing, 10);
            // TOLD it does not slow one down
            x.set(4, 0, 255);
            keeper(x, 1, NONE, 150);
            // without its weight it would be fewer
            x = by(1 << thing, "999", "20 + untold", "0");
            keeper(x, 1, NONE, 30);
            Checks.due("it weighs what it did", x.told(thing, 1), 10);
        }
        // more of one, fewer of another, as many together
        x = by(1, "999", "50 - untold * (number = 0) + untold * (number = 1)", "0");
        keeper(x, 1, 0, 50);
        x.walker(0, 1, 1);
        keeper(x, 1, NONE, 40 + 60);
        x.walker(0, 0, 1);
        keeper(x, 1, 0, 50 + 50 + 50);
    }

    private static void keeperOfLikeOnes() {
        Checks.begin("promise 15: most; of like ones the first");
        SolesByWhatIsTold x = by(255, "999", "90 - untold", "0");
        keeper(x, 1, 0, 20);
        for (int thing = 0; thing < 7; thing++) {
            x.set(1, thing, 9 - thing);
        }
        // 9, 8, 7, 6, 5, 4, 3, 10
        keeper(x, 1, 7, 90 - 42);
        x.set(1, 7, 9);
        keeper(x, 1, 0, 90 - 42);
        x.set(1, 7, 8);
        keeper(x, 1, 0, 90 - 41);
        x.set(1, 0, 0);
        keeper(x, 1, 1, 90 - 33);
        // six at the end of the road are together the most of all
        x = new SolesByWhatIsTold();
        for (int i = 0; i < 6; i++) {
            x.walker(5, 1, 1 << i);
            x.set(5, i, 999);
        }
        keeper(x, 40, NONE, 5994);
        x.set(5, 5, 998);
        keeper(x, 40, 5, 5994);
        x.set(5, 4, 998);
        keeper(x, 40, 4, 5993);
    }

    private static void keeperOfDays() {
        Checks.begin("promise 15: n DAYS, 0 .. 40");
        SolesByWhatIsTold x = by(128, "999", "11 - untold", "0");
        x.set(5, 0, 5);
        keeper(x, 0, NONE, 5);
        for (int n = 1; n <= 40; n++) {
            keeper(x, n, 7, 5 + 11 * n);
        }
        x = by(128, "999", "1", "day < 38 + (0 < untold)");
        keeper(x, 38, NONE, 0);
        keeper(x, 39, 7, 1);
        keeper(x, 40, 7, 2);
        x.set(0, 0, 999);
        Checks.rule(x, "999", "1", "day < 1037 + (0 < untold)");
        keeper(x, 38, NONE, 0);
        keeper(x, 40, 7, 2);
    }

    private static void keeperRefused() {
        Checks.begin("promise 15: BAD");
        Refusals[] roads = {new Refusals(Roads::empty), new Refusals(Roads::some), new Refusals(Roads::full)};
        for (Refusals road : roads) {
            int[] days = {LEAST, -1, 41, 256, MOST};
            for (int n : days) {
                road.due("keeper(" + n + ", 0)", x -> x.keeper(n, 0), BAD);
                road.due("keeper(" + n + ", 1)", x -> x.keeper(n, 1), BAD);
            }
            int[] whats = {LEAST, -1, 2, 256, MOST};
            for (int what : whats) {
                road.due("keeper(40, " + what + ")", x -> x.keeper(40, what), BAD);
            }
        }
    }

    // ---- promise 16

    private static void spareOfTold() {
        Checks.begin("promise 16: THINGS that are TIES and TOLD, no less far without the telling of each");
        SolesByWhatIsTold x = by(0x3c, "999", "9", "0");
        // nothing that is told is needed: all that are both
        x.set(4, 0, 0xf0);
        Checks.due("spare(0, 40)", x.spare(0, 40), 0x30);
        x.set(4, 0, 0x0f);
        Checks.due("spare(0, 40)", x.spare(0, 40), 0x0c);
        x.set(4, 0, 0);
        Checks.due("spare(0, 40), none TOLD", x.spare(0, 40), 0);
        x.set(4, 0, 0xc3);
        Checks.due("spare(0, 40), none of the TIES TOLD", x.spare(0, 40), 0);
        x.set(3, 0, 255);
        x.set(4, 0, 255);
        Checks.due("spare(0, 40), all", x.spare(0, 40), 255);
        x.set(3, 0, 0);
        Checks.due("spare(0, 40), no TIES", x.spare(0, 40), 0);
        // each is spared by itself, though not both together
        x = by(3, "50 * (0 < told)", "9", "0");
        x.set(4, 0, 3);
        Checks.due("spare(0, 40), one of two", x.spare(0, 40), 3);
        x.set(4, 0, 1);
        Checks.due("spare(0, 40), the last one", x.spare(0, 40), 0);
        // one STEP less is less far, one more is not, as many is not
        x = by(7, "20 + told", "99", "0");
        x.set(4, 0, 7);
        x.set(1, 0, 1);
        x.set(1, 1, 0);
        Checks.due("spare(0, 40)", x.spare(0, 40), 2);
        Checks.rule(x, "60 - told", "99", "0");
        Checks.due("spare(0, 40), further without it", x.spare(0, 40), 7);
        // untold it comes along: STOPPED by it one would be less far
        Checks.rule(x, "60", "9", "5 < untold");
        Checks.due("spare(0, 40), STOPPED by what weighs 10", x.spare(0, 40), 3);
        // at the end of the road none is needed
        Checks.rule(x, "told", "99", "0");
        x.set(5, 0, 999);
        Checks.due("spare(0, 40), STEP 999", x.spare(0, 40), 7);
        x.set(5, 0, 990);
        Checks.due("spare(0, 40), STEP 990", x.spare(0, 40), 3);
    }

    private static void spareOfDays() {
        Checks.begin("promise 16: n DAYS, 0 .. 40");
        SolesByWhatIsTold x = by(129, "40 - (told < 20)", "1", "0");
        x.set(4, 0, 129);
        Checks.due("spare(0, 0)", x.spare(0, 0), 129);
        Checks.due("spare(0, 39)", x.spare(0, 39), 129);
        Checks.due("spare(0, 40), less far by the last DAY", x.spare(0, 40), 0);
        x.set(0, 0, 999);
        Checks.rule(x, "99", "1", "day = 1038 and told < 20");
        Checks.due("spare(0, 39), DAY 1038 is not reached", x.spare(0, 39), 129);
        Checks.due("spare(0, 40)", x.spare(0, 40), 0);
    }

    private static void spareRefused() {
        Checks.begin("promise 16: BAD");
        Refusals some = new Refusals(Roads::some);
        Refusals full = new Refusals(Roads::full);
        int[] ones = {LEAST, -1, 3, 256, MOST};
        for (int one : ones) {
            some.due("spare(" + one + ", 0)", x -> x.spare(one, 0), BAD);
        }
        full.due("spare(6, 0)", x -> x.spare(6, 0), BAD);
        int[] days = {LEAST, -1, 41, 256, MOST};
        for (int n : days) {
            some.due("spare(2, " + n + ")", x -> x.spare(2, n), BAD);
        }
    }

    private static void nothingIsOtherwise() {
        Checks.begin("promises 11 to 16: what would be, not what is");
        Refusals some = new Refusals(Roads::some);
        // 0: STEP 21, WORN 2, PACE 5, LASTS 50 and what is TOLD of 10, 10, 3, 10
        some.due("far(0, 40, 0)", x -> x.far(0, 40, 0), 15);
        some.due("far(0, 40, 1)", x -> x.far(0, 40, 1), 21 + 81);
        some.due("least(0, 80, 0)", x -> x.least(0, 80, 0), 1 + 4);
        some.due("least(0, 80, 1)", x -> x.least(0, 80, 1), 13);
        some.due("heaviest(2, 0, 80)", x -> x.heaviest(2, 0, 80), 99);
        some.due("heaviest(2, 0, 999)", x -> x.heaviest(2, 0, 999), NONE);
        some.due("away(30, 0)", x -> x.away(30, 0), 1);
        some.due("away(30, 1)", x -> x.away(30, 1), 0);
        some.due("keeper(0, 0)", x -> x.keeper(0, 0), NONE);
        some.due("keeper(0, 1)", x -> x.keeper(0, 1), 51);
        some.due("spare(0, 1)", x -> x.spare(0, 1), 5);
    }
}
