/** Promises 17 to 23, the sentences that name a bound: rows of 0 and 40 numbers, NONE, all bits, seeds, THE IMAGE. */
public final class EdgesOfStepsToldTest {
    private static final int BAD = SolesByWhatIsTold.BAD, NONE = SolesByWhatIsTold.NONE;
    private static final long NO = SolesByWhatIsTold.NO;
    private static final int LEAST = Refusals.LEAST, MOST = Refusals.MOST;

    public static void main(String[] args) {
        tellsOfNoNumbers();
        tellsFirstOtherwise();
        tellsOddNumbers();
        tellsKinds();
        tellsNumbers();
        tellsSets();
        tellsTexts();
        tellsSteps();
        tellsByDays();
        tellsChangesNothing();
        tellsRefused();
        filmOfDays();
        filmBecomesShorts();
        filmRefused();
        drawnBySeeds();
        drawnOfDays();
        drawnRefused();
        chanceInLowestTerms();
        chanceOfSeeds();
        chanceOfDays();
        chanceOfEach();
        chanceRefused();
        imageOfAll();
        backOfWalkers();
        backLeavesTheRest();
        backRefused();
        countAtBounds();
        countRefused();
        Checks.end();
    }

    private static SolesByWhatIsTold by(int ties, String lasts, String paces, String stops) {
        SolesByWhatIsTold x = new SolesByWhatIsTold();
        x.walker(0, 0, ties);
        Checks.rule(x, lasts, paces, stops);
        return x;
    }

    private static void tells(SolesByWhatIsTold x, int what, int wanted) {
        Checks.due("tells(0, 0, " + what + ")", x.tells(0, 0, what), wanted);
    }

    // ---- promise 17

    private static void tellsOfNoNumbers() {
        Checks.begin("promise 17: of no numbers none is otherwise");
        for (int sort = 0; sort < 3; sort++) {
            SolesByWhatIsTold x = Roads.full();
            x.sheet(0, sort, 0);
            int[] wanted = {NONE, 63, 1023, 256, 0, 63, 1000, 0};
            for (int what = 0; what < 8; what++) {
                tells(x, what, wanted[what]);
            }
            x.set(3, 0, 0);
            tells(x, 3, 1);
            tells(x, 4, 0);
        }
        SolesByWhatIsTold x = new SolesByWhatIsTold();
        x.walker(0, 0, 0x90);
        x.sheet(0, 0, 0);
        tells(x, 3, 4);
        tells(x, 4, 0);
        tells(x, 5, 1);
    }

    private static void tellsFirstOtherwise() {
        Checks.begin("promise 17: the first number, from 0, that is otherwise; NONE");
        for (int sort = 0; sort < 3; sort++) {
            SolesByWhatIsTold x = by(0, "999", "3", "0");
            x.sheet(0, sort, 40);
            for (int i = 0; i < 40; i++) {
                x.cell(0, i, 3 * (i + 1));
            }
            tells(x, 0, NONE);
            for (int i = 39; i >= 0; i--) {
                x.cell(0, i, 3 * (i + 1) + 1);
                tells(x, 0, i);
            }
            tells(x, 0, 0);
            for (int i = 0; i < 39; i++) {
                x.cell(0, i, 3 * (i + 1));
                tells(x, 0, i + 1);
            }
        }
        // STEP as it is now is none of them
        SolesByWhatIsTold x = by(0, "999", "3", "0");
        Checks.row(x, 0, 1, 0, 3);
        tells(x, 0, 0);
        Checks.row(x, 0, 1, 3);
        tells(x, 0, NONE);
        Checks.row(x, 0, 1, 3, 3);
        tells(x, 0, 1);
    }

    private static void tellsOddNumbers() {
        Checks.begin("promise 17: numbers that no STEP is");
        int[] odd = {LEAST, -1, 1000, 1002, 65536 + 3, MOST};
        for (int number : odd) {
            SolesByWhatIsTold x = by(3, "999", "3", "0");
            Checks.row(x, 0, 2, number);
            int[] wanted = {0, 0, 0, 0, NONE, 0, 0, NONE};
            for (int what = 0; what < 8; what++) {
                tells(x, what, wanted[what]);
            }
        }
    }

    private static void tellsKinds() {
        Checks.begin("promise 17: KINDS, bits 0 .. 5");
        int[] steps = {20, 40, 22, 43, 1, 5};
        for (int kind = 0; kind < 6; kind++) {
            for (int now = 0; now < 6; now++) {
                SolesByWhatIsTold x = Roads.one(now, 5, 10, 0);
                Checks.rule(x, "999", "20", "0");
                Checks.row(x, 0, 1, steps[kind]);
                tells(x, 1, 1 << kind);
                Checks.due("KIND is as it was", x.told(0, 7), now);
            }
        }
        SolesByWhatIsTold x = Roads.one(5, 5, 10, 40);
        Checks.rule(x, "999", "20", "0");
        // 40 come along behind: BRIDES are STOPPED, a DOG is
        Checks.row(x, 0, 1, 0);
        tells(x, 1, 4 + 16 + 32);
        Checks.row(x, 0, 1, 20);
        tells(x, 1, 1 + 2);
        Checks.row(x, 0, 1, 23);
        tells(x, 1, 8);
        Checks.row(x, 0, 1, 21);
        tells(x, 1, 0);
        // at the end of the road all are, or stay
        x.set(5, 0, 999);
        Checks.row(x, 0, 1, 999);
        tells(x, 1, 63);
        Checks.row(x, 0, 1, 998);
        tells(x, 1, 0);
    }

    private static void tellsNumbers() {
        Checks.begin("promise 17: NUMBERS, bits 0 .. 9");
        for (int number = 0; number < 10; number++) {
            SolesByWhatIsTold x = new SolesByWhatIsTold();
            x.walker(5, 9 - number, 0);
            Checks.row(x, 0, 0, number, 2 * number);
            tells(x, 2, 1 << number);
            Checks.due("NUMBER is as it was", x.told(0, 2), 9 - number);
            x.cell(0, 1, 2 * number + 1);
            tells(x, 2, 0);
        }
        SolesByWhatIsTold x = by(0, "7", "7", "0");
        Checks.row(x, 0, 0, 7, 7);
        tells(x, 2, 1023);
        // a SAILOR's SOLES last NUMBER more
        x = new SolesByWhatIsTold();
        x.walker(1, 3, 0);
        Checks.rule(x, "5", "99", "number = 4");
        for (int number = 0; number < 10; number++) {
            Checks.row(x, 0, 0, 5 + number);
            tells(x, 2, number == 4 ? 16 : 1 << number);
        }
        Checks.rule(x, "5", "99", "1");
        Checks.row(x, 0, 0, 14);
        tells(x, 2, 512);
        Checks.row(x, 0, 0, 15);
        tells(x, 2, 0);
    }

    private static void tellsSets() {
        Checks.begin("promise 17: what could be TOLD, sets of TIES: how many, the least as bits");
        SolesByWhatIsTold x = by(255, "999", "told", "0");
        x.set(4, 0, 0x55);
        // eight of 10: sets of as many as the number tells, of which there are 8 over k
        int[] over = {1, 8, 28, 56, 70, 56, 28, 8, 1};
        for (int k = 0; k < 9; k++) {
            Checks.row(x, 0, 0, 10 * k);
            tells(x, 3, over[k]);
            tells(x, 4, (1 << k) - 1);
        }
        Checks.row(x, 0, 0, 81);
        tells(x, 3, 0);
        tells(x, 4, NONE);
        Checks.due("TOLD is as it was", x.told(0, 4), 0x55);
        // the least as bits, not by weight; of TIES alone
        x.set(3, 0, 0xb2);
        Checks.row(x, 0, 0, 10);
        tells(x, 3, 4);
        tells(x, 4, 2);
        x.set(1, 1, 0);
        tells(x, 3, 6);
        tells(x, 4, 0x10);
        x.set(1, 1, 10);
        x.set(1, 7, 1);
        Checks.row(x, 0, 0, 20);
        tells(x, 3, 3);
        tells(x, 4, 0x12);
        x.set(1, 7, 20);
        tells(x, 3, 4);
        tells(x, 4, 0x12);
        x.set(1, 1, 11);
        tells(x, 4, 0x30);
        x.set(1, 4, 9);
        tells(x, 3, 2);
        tells(x, 4, 0x12);
        x.set(1, 4, 8);
        tells(x, 3, 1);
        tells(x, 4, 0x80);
    }

    private static void tellsTexts() {
        Checks.begin("promise 17: TEXTS, bits, were they THE RULE");
        SolesByWhatIsTold x = new SolesByWhatIsTold();
        x.walker(0, 0, 0);
        for (int text = 1; text < 6; text++) {
            Checks.text(x, "lasts 9;paces " + text + ";stops 0;");
        }
        for (int text = 1; text < 6; text++) {
            for (int rule = 0; rule < 6; rule++) {
                x.force(rule);
                x.sheet(0, 0, 1);
                x.cell(0, 0, text);
                tells(x, 5, text == 5 ? 1 + 32 : 1 << text);
            }
            Checks.due("count(6)", x.count(6), 5);
        }
        Checks.row(x, 0, 0, 5, 9);
        tells(x, 5, 32);
        Checks.row(x, 0, 0, 5, 5);
        tells(x, 5, 1);
        Checks.row(x, 0, 0, 6);
        tells(x, 5, 0);
        // TEXTS that are not there yet are none of them
        x = new SolesByWhatIsTold();
        x.walker(0, 0, 0);
        x.set(6, 0, 999);
        Checks.row(x, 0, 0, 0, 0);
        tells(x, 5, 1);
        Checks.text(x, "lasts 9;paces 1;stops 0;");
        tells(x, 5, 3);
        Checks.text(x, "lasts 9;paces 1;stops 0");
        tells(x, 5, 3);
    }

    private static void tellsSteps() {
        Checks.begin("promise 17: STEPS, 0 .. 999, at which one could be now: how many, the least");
        SolesByWhatIsTold x = by(0, "999", "7", "0");
        // from which STEPS one would come to each, by 7
        int[][] due = {{0, 0, NONE}, {6, 0, NONE}, {7, 1, 0}, {8, 1, 1}, {998, 1, 991}, {999, 8, 992}};
        for (int now = 0; now < 1000; now += 333) {
            x.set(5, 0, now);
            for (int[] row : due) {
                x.sheet(0, 1, 1);
                x.cell(0, 0, row[0]);
                tells(x, 6, row[1]);
                tells(x, 7, row[2]);
            }
            Checks.due("STEP is as it was", x.told(0, 5), now);
        }
        Checks.row(x, 0, 1, 999, 999);
        tells(x, 6, 8);
        tells(x, 7, 992);
        Checks.row(x, 0, 1, 992, 999);
        tells(x, 6, 1);
        tells(x, 7, 985);
        Checks.row(x, 0, 1, 993, 999);
        tells(x, 6, 1);
        tells(x, 7, 986);
        // who stays is where he was
        x.set(6, 0, 999);
        int[] stays = {0, 1, 500, 999};
        for (int step : stays) {
            Checks.row(x, 0, 1, step, step);
            tells(x, 6, 1);
            tells(x, 7, step);
        }
        // THE RULE may tell of STEP: 99 STEPS from 0, .. from 99 on none
        x = by(0, "999", "99 - step", "0");
        Checks.row(x, 0, 1, 99);
        tells(x, 6, 100);
        tells(x, 7, 0);
        Checks.row(x, 0, 1, 100);
        tells(x, 6, 1);
        tells(x, 7, 100);
        // STOPPED at all STEPS but three
        x = by(0, "999", "9", "not step = 4 and not step = 1 and not step = 990");
        Checks.row(x, 0, 1, 13);
        tells(x, 6, 2);
        tells(x, 7, 4);
        Checks.row(x, 0, 1, 999);
        tells(x, 6, 2);
        tells(x, 7, 990);
        Checks.row(x, 0, 1, 4);
        tells(x, 6, 0);
        tells(x, 7, NONE);
    }

    private static void tellsByDays() {
        Checks.begin("promise 17: behind 1, 2, .. 40 DAYS, in thought");
        SolesByWhatIsTold x = by(0, "999", "day = 1038", "0");
        x.set(0, 0, 999);
        x.sheet(0, 2, 40);
        tells(x, 0, 39);
        x.cell(0, 39, 1);
        int[] wanted = {NONE, 1, 1023, 1, 0, 2, 1, 0};
        for (int what = 0; what < 8; what++) {
            tells(x, what, wanted[what]);
        }
        x.set(0, 0, 998);
        tells(x, 0, 39);
        // WORN is told on, too
        x = by(0, "5", "2", "0");
        Checks.row(x, 0, 0, 2, 4, 5, 5, 5);
        tells(x, 0, NONE);
        x.set(6, 0, 1);
        tells(x, 0, 2);
    }

    private static void tellsChangesNothing() {
        Checks.begin("promise 17: what could be, not what is");
        Refusals some = new Refusals(Roads::some);
        int[] wanted = {NONE, 32, 4, 1, 0, 3, 1, 30};
        for (int sheet = 0; sheet < 3; sheet++) {
            for (int what = 0; what < 8; what++) {
                int s = sheet;
                int w = what;
                some.due("tells(" + s + ", 1, " + w + ")", x -> x.tells(s, 1, w), wanted[w]);
            }
        }
    }

    private static void tellsRefused() {
        Checks.begin("promise 17: BAD: SHEET, one, what; -11");
        Refusals some = new Refusals(Roads::some);
        int[] sheets = {LEAST, -1, 4, 256, MOST};
        for (int sheet : sheets) {
            some.due("tells(" + sheet + ", 0, 0)", x -> x.tells(sheet, 0, 0), BAD);
        }
        int[] ones = {LEAST, -1, 3, 256, MOST};
        int[] whats = {LEAST, -1, 8, 256, MOST};
        // ahead of -11, too
        for (int sheet = 0; sheet < 4; sheet += 3) {
            int s = sheet;
            for (int one : ones) {
                some.due("tells(" + s + ", " + one + ", 0)", x -> x.tells(s, one, 0), BAD);
            }
            for (int what : whats) {
                some.due("tells(" + s + ", 2, " + what + ")", x -> x.tells(s, 2, what), BAD);
            }
        }
        for (int what = 0; what < 8; what++) {
            int w = what;
            some.due("tells(3, 2, " + w + "), missing", x -> x.tells(3, 2, w), -11);
            some.due("tells(4, 3, " + w + ")", x -> x.tells(4, 3, w), BAD);
        }
    }

    // ---- promise 18

    private static void filmOfDays() {
        Checks.begin("promise 18: STEP behind 1, .., n DAYS, 0 .. 40");
        for (int n = 0; n <= 40; n++) {
            SolesByWhatIsTold x = by(0, "999", "day - 990", "0");
            x.set(0, 0, 999);
            x.set(5, 0, 700);
            Checks.due("film(0, 0, " + n + ")", x.film(0, 0, n), n);
            Checks.due("count(1)", x.count(1), 999);
            Checks.due("STEP is as it was", x.told(0, 5), 700);
            Checks.due("WORN is as it was", x.told(0, 6), 0);
            Checks.due("tells(0, 0, 0)", x.tells(0, 0, 0), NONE);
            Checks.due("items 0 .. n", x.copy(0, 0, 0, 0, n), n);
            Checks.due("no items more", x.copy(0, 0, 0, 0, n + 1), -12);
            if (n > 0) {
                // the last one tells STEP behind n DAYS
                x.walker(5, 0, 0);
                x.set(5, 1, x.run(0, n, 0));
                x.sheet(1, 1, 1);
                x.copy(0, n - 1, 1, 0, 1);
                Checks.due("the last item", x.tells(1, 1, 0), NONE);
            }
        }
    }

    private static void filmBecomesShorts() {
        Checks.begin("promise 18: a SHEET truly becomes that, whatever it was");
        for (int sort = -1; sort < 3; sort++) {
            int[] sizes = {0, 3, 40};
            for (int size : sizes) {
                SolesByWhatIsTold x = by(0, "999", "99", "0");
                x.set(5, 0, 800);
                x.sheet(2, sort, size);
                for (int i = 0; i < size; i++) {
                    x.cell(2, i, 77);
                }
                Checks.due("film(2, 0, 5)", x.film(2, 0, 5), 5);
                Checks.due("shorts now", x.walkers(2, 1, 0, 0), 0);
                Checks.due("no bytes", x.walkers(2, 0, 0, 0), -13);
                Checks.due("no ints", x.walkers(2, 2, 0, 0), -13);
                Checks.due("item 5 is outside", x.cell(2, 5, 0), -12);
                Checks.row(x, 1, 1, 899, 998, 999, 999, 999);
                Checks.due("tells(1, 0, 0)", x.tells(1, 0, 0), NONE);
                Checks.due("tells(2, 0, 0)", x.tells(2, 0, 0), NONE);
                Checks.due("film(2, 0, 0)", x.film(2, 0, 0), 0);
                Checks.due("no item", x.cell(2, 0, 0), -12);
                Checks.due("shorts yet", x.walkers(2, 1, 0, 0), 0);
            }
        }
    }

    private static void filmRefused() {
        Checks.begin("promise 18: BAD");
        Refusals some = new Refusals(Roads::some);
        Refusals empty = new Refusals(Roads::empty);
        empty.due("film(0, 0, 0) of none", x -> x.film(0, 0, 0), BAD);
        int[] sheets = {LEAST, -1, 4, 256, MOST};
        for (int sheet : sheets) {
            some.due("film(" + sheet + ", 0, 3)", x -> x.film(sheet, 0, 3), BAD);
        }
        int[] ones = {LEAST, -1, 3, 256, MOST};
        int[] days = {LEAST, -1, 41, 256, MOST};
        for (int sheet = 0; sheet < 4; sheet++) {
            int s = sheet;
            for (int one : ones) {
                some.due("film(" + s + ", " + one + ", 3)", x -> x.film(s, one, 3), BAD);
            }
            for (int n : days) {
                some.due("film(" + s + ", 0, " + n + ")", x -> x.film(s, 0, n), BAD);
            }
        }
    }

    // ---- promise 19

    /** z of the int SEED, by remainders of 2^32, as many times anew as are told. */
    private static int weight(int seed, int thing) {
        long z = Math.floorMod((long) seed, 1L << 32);
        for (int i = 0; i <= thing; i++) {
            z = (z * 1103515245L + 12345L) % (1L << 32);
            z = Math.floorMod(z, 1L << 32);
        }
        return (int) (z / 512 % 30);
    }

    private static final int[] SEEDS = {0, 1, -1, 2, 12345, -12345, 1 << 30, MOST, MOST - 1, LEAST, LEAST + 1};

    private static void drawnBySeeds() {
        Checks.begin("promise 19: DRAWN by a SEED, an int, for each THING in order");
        // worked out by hand: 12345 is z of SEED 0, and 12345 / 512 is 24
        SolesByWhatIsTold x = by(1, "999", "untold", "0");
        Checks.due("drawn(0, 1)", x.drawn(0, 1), 24);
        for (int seed : SEEDS) {
            for (int thing = 0; thing < 8; thing++) {
                x = by(1 << thing, "999", "untold", "0");
                x.set(1, thing, 99);
                int heavy = weight(seed, thing);
                Checks.due("drawn(" + seed + ", 1) of " + thing, x.drawn(seed, 1), heavy);
                Checks.due("drawn(" + seed + ", 2) of " + thing, x.drawn(seed, 2), 2 * heavy);
                Checks.due("it weighs what it did", x.told(thing, 1), 99);
                x.set(4, 0, 1 << thing);
                Checks.due("drawn(" + seed + ", 1), TOLD", x.drawn(seed, 1), 0);
            }
        }
    }

    private static void drawnOfDays() {
        Checks.begin("promise 19: STEPS of all behind n DAYS, 0 .. 40, together");
        SolesByWhatIsTold x = new SolesByWhatIsTold();
        for (int i = 0; i < 6; i++) {
            x.walker(0, 0, 1 << i);
            x.set(5, i, i);
            for (int seed : SEEDS) {
                int sum = 0;
                for (int one = 0; one <= i; one++) {
                    sum += one;
                }
                Checks.due("drawn(seed, 0)", x.drawn(seed, 0), sum);
                x.force(0);
                for (int one = 0; one <= i; one++) {
                    sum += Math.min(5, 10 * Math.max(0, 10 - weight(seed, one)));
                }
                Checks.due("drawn(seed, 10)", x.drawn(seed, 10), sum);
                Checks.due("drawn(seed, 40)", x.drawn(seed, 40), sum);
            }
        }
        for (int i = 0; i < 6; i++) {
            x.set(5, i, 999);
        }
        Checks.due("drawn(9, 40), all at STEP 999", x.drawn(9, 40), 5994);
        x = by(0, "999", "day = 1038", "0");
        x.set(0, 0, 999);
        Checks.due("drawn(9, 39)", x.drawn(9, 39), 0);
        Checks.due("drawn(9, 40), in thought", x.drawn(9, 40), 1);
    }

    private static void drawnRefused() {
        Checks.begin("promise 19: BAD: n");
        Refusals[] roads = {new Refusals(Roads::empty), new Refusals(Roads::some), new Refusals(Roads::full)};
        for (Refusals road : roads) {
            int[] days = {LEAST, -1, 41, 256, MOST};
            for (int n : days) {
                road.due("drawn(0, " + n + ")", x -> x.drawn(0, n), BAD);
                road.due("drawn(-1, " + n + ")", x -> x.drawn(-1, n), BAD);
            }
        }
        roads[1].due("drawn(MOST, 0), as they are", x -> x.drawn(MOST, 0), 51);
    }

    // ---- promise 20

    /** THINGS that are drawn below the bound stop one: in how many of m seeds. */
    private static void chance(int seed, int m, int bound) {
        SolesByWhatIsTold x = by(1, "999", "1", "untold < " + bound);
        int above = 0;
        for (int i = 0; i < m; i++) {
            above += weight(seed + i, 0) < bound ? 1 : 0;
        }
        int by = m;
        while (above % by != 0 || m % by != 0) {
            by--;
        }
        String call = "chance(" + seed + ", " + m + ", ..), below " + bound;
        Checks.due(call, x.chance(seed, m, 0), above / by);
        Checks.due(call, x.chance(seed, m, 1), m / by);
    }

    private static void chanceInLowestTerms() {
        Checks.begin("promise 20: part 0 above, 1 below the line, in lowest terms");
        for (int m = 1; m <= 20; m++) {
            SolesByWhatIsTold x = by(1, "999", "1", "0");
            Checks.due("none of m, above", x.chance(5, m, 0), 0);
            Checks.due("none of m, below", x.chance(5, m, 1), 1);
            Checks.rule(x, "999", "1", "1");
            Checks.due("all of m, above", x.chance(5, m, 0), 1);
            Checks.due("all of m, below", x.chance(5, m, 1), 1);
            for (int bound = 0; bound <= 30; bound++) {
                chance(5, m, bound);
            }
        }
    }

    private static void chanceOfSeeds() {
        Checks.begin("promise 20: m seeds, 1 .. 20, SEED and each 1 more, an int");
        for (int seed : SEEDS) {
            for (int bound = 3; bound < 30; bound += 6) {
                chance(seed, 1, bound);
                chance(seed, 2, bound);
                chance(seed, 19, bound);
                chance(seed, 20, bound);
            }
        }
        // seeds of which one alone is otherwise: the last of them counts, the next does not
        for (int seed = -40; seed < 40; seed++) {
            SolesByWhatIsTold x = by(1, "999", "1", "untold = " + weight(seed, 0));
            Checks.due("chance(seed, 1, 0)", x.chance(seed, 1, 0), 1);
            if (weight(seed + 1, 0) != weight(seed, 0)) {
                Checks.due("chance(seed + 1, 1, 0)", x.chance(seed + 1, 1, 0), 0);
                Checks.due("chance(seed, 2, 1)", x.chance(seed, 2, 1), 2);
            }
        }
        int wrap = weight(LEAST, 0);
        SolesByWhatIsTold x = by(1, "999", "1", "untold = " + wrap);
        Checks.due("chance(MOST, 2, 0): 1 more than the most int is the least", x.chance(MOST, 2, 0), 1);
    }

    private static void chanceOfDays() {
        Checks.begin("promise 20: 10 DAYS: in SOCKS behind any of them, or have stayed in any");
        for (int lasts = 0; lasts < 20; lasts++) {
            SolesByWhatIsTold x = by(0, "" + lasts, "1", "0");
            Checks.due("LASTS " + lasts, x.chance(0, 1, 0), lasts <= 10 ? 1 : 0);
        }
        for (int day = 0; day < 20; day++) {
            SolesByWhatIsTold x = by(0, "999", "1", "day = " + day);
            Checks.due("STOPPED on DAY " + day, x.chance(0, 1, 0), day < 10 ? 1 : 0);
            // in SOCKS on one DAY alone: ahead of it one stays, behind the tenth it is DAY 10
            x = by(0, "999 * (not day = " + day + ")", "1", "0");
            Checks.due("in SOCKS on DAY " + day, x.chance(0, 1, 0), day <= 10 ? 1 : 0);
        }
        SolesByWhatIsTold x = by(0, "999", "1", "day = 1008");
        x.set(0, 0, 999);
        Checks.due("STOPPED on DAY 1008, in thought", x.chance(0, 1, 0), 1);
        x.set(0, 0, 998);
        Checks.due("STOPPED on DAY 1008, the eleventh", x.chance(0, 1, 0), 0);
        // no PACE is no staying
        x = by(0, "999", "0", "0");
        Checks.due("PACE 0", x.chance(0, 20, 0), 0);
    }

    private static void chanceOfEach() {
        Checks.begin("promise 20: each would have been");
        SolesByWhatIsTold x = new SolesByWhatIsTold();
        Checks.due("of none, above", x.chance(3, 20, 0), 1);
        Checks.due("of none, below", x.chance(3, 20, 1), 1);
        // the SOLES of NUMBER 1 last longer than 10 DAYS
        for (int free = -1; free < 6; free++) {
            x = new SolesByWhatIsTold();
            Checks.rule(x, "10 + (number = 1)", "1", "0");
            for (int i = 0; i < 6; i++) {
                x.walker(0, i == free ? 1 : 0, 255);
                Checks.due("chance(0, 7, 0), but for " + free, x.chance(0, 7, 0), free < 0 || i < free ? 1 : 0);
                Checks.due("chance(0, 7, 1), but for " + free, x.chance(0, 7, 1), 1);
            }
        }
    }

    private static void chanceRefused() {
        Checks.begin("promise 20: NO: m, part");
        Checks.due("NO", NO, -(1L << 62));
        Refusals[] roads = {new Refusals(Roads::empty), new Refusals(Roads::some), new Refusals(Roads::full)};
        for (Refusals road : roads) {
            int[] seeds = {LEAST, -1, 0, 21, 256, MOST};
            for (int m : seeds) {
                road.due("chance(0, " + m + ", 0)", x -> x.chance(0, m, 0), NO);
                road.due("chance(0, " + m + ", 1)", x -> x.chance(0, m, 1), NO);
            }
            int[] parts = {LEAST, -1, 2, 256, MOST};
            for (int part : parts) {
                road.due("chance(0, 1, " + part + ")", x -> x.chance(0, 1, part), NO);
                road.due("chance(0, 20, " + part + ")", x -> x.chance(0, 20, part), NO);
            }
        }
        roads[1].due("chance(MOST, 20, 0), of whom a DOG goes on", x -> x.chance(MOST, 20, 0), 0);
    }

    // ---- promises 21 and 22

    private static void imageOfAll() {
        Checks.begin("promise 21: AN IMAGE is kept: how many WALKERS");
        for (int many = 0; many <= 6; many++) {
            SolesByWhatIsTold x = new SolesByWhatIsTold();
            for (int i = 0; i < many; i++) {
                x.walker(i, i, 1 << i);
                x.set(4, i, i + 1);
                x.set(5, i, 999 - i);
                x.set(6, i, 9999 - i);
            }
            for (int thing = 0; thing < 8; thing++) {
                x.set(1, thing, 99 - thing);
            }
            x.set(0, 0, 999);
            Checks.text(x, Roads.PLAIN);
            x.force(1);
            Checks.due("image()", x.image(), many);
            Checks.due("image() again", x.image(), many);
            for (int thing = 0; thing < 8; thing++) {
                x.set(1, thing, 0);
            }
            for (int i = 0; i < many; i++) {
                for (int what = 2; what < 7; what++) {
                    x.set(what, i, 0);
                }
            }
            x.set(0, 0, 0);
            x.force(0);
            for (int i = many; i < 6; i++) {
                Checks.due("walker(5, 9, 255)", x.walker(5, 9, 255), i);
            }
            Checks.due("back()", x.back(), many);
            Checks.due("count(0)", x.count(0), many);
            Checks.due("DAY", x.count(1), 999);
            Checks.due("THE RULE", x.count(6), 1);
            for (int thing = 0; thing < 8; thing++) {
                Checks.due("weights", x.told(thing, 1), 99 - thing);
            }
            for (int i = 0; i < 6; i++) {
                int[] wanted = {i, 1 << i, i + 1, 999 - i, 9999 - i, i};
                for (int what = 2; what < 8; what++) {
                    Checks.due("told(" + i + ", " + what + ")", x.told(i, what), i < many ? wanted[what - 2] : BAD);
                }
            }
        }
    }

    private static void backOfWalkers() {
        Checks.begin("promise 22: WALKERS that came since go");
        SolesByWhatIsTold x = new SolesByWhatIsTold();
        Checks.due("image() of none", x.image(), 0);
        Checks.due("back() at once", x.back(), 0);
        for (int time = 0; time < 3; time++) {
            for (int i = 0; i < 6; i++) {
                Checks.due("walker()", x.walker(time + i % 3, i, 255), i);
                x.set(5, i, 7);
            }
            Checks.due("walker(), full", x.walker(0, 0, 0), -4);
            Checks.due("back()", x.back(), 0);
            Checks.due("count(0)", x.count(0), 0);
            Checks.due("told(0, 7)", x.told(0, 7), BAD);
            Checks.due("taken(0, 0)", x.taken(0, 0), -11);
            Checks.due("day() of none", x.day(), 0);
            Checks.due("back() again", x.back(), 0);
            Checks.due("count(1)", x.count(1), 0);
        }
        // THE IMAGE that was kept last
        x.walker(3, 4, 5);
        Checks.due("image()", x.image(), 1);
        x.walker(4, 5, 6);
        Checks.due("image()", x.image(), 2);
        x.walker(5, 6, 7);
        Checks.due("back()", x.back(), 2);
        Checks.due("told(1, 7)", x.told(1, 7), 4);
        Checks.due("told(2, 7)", x.told(2, 7), BAD);
        // what is set then is not in THE IMAGE
        x.set(5, 1, 99);
        Checks.due("back()", x.back(), 2);
        Checks.due("told(1, 5)", x.told(1, 5), 0);
    }

    private static void backLeavesTheRest() {
        Checks.begin("promise 22: all that it keeps, and no more: TEXTS, THE TAPE, SHEETS are as they were");
        SolesByWhatIsTold x = new SolesByWhatIsTold();
        x.walker(5, 9, 0);
        x.image();
        Checks.text(x, Roads.PLAIN);
        x.force(1);
        x.feed('l');
        x.film(0, 0, 3);
        x.sheet(1, 2, 40);
        x.set(2, 0, 8);
        Checks.due("back()", x.back(), 1);
        Checks.due("count(4)", x.count(4), 2);
        Checks.due("count(5)", x.count(5), 1);
        Checks.due("count(6)", x.count(6), 0);
        Checks.due("tells(0, 0, 0)", x.tells(0, 0, 0), NONE);
        Checks.due("cell(1, 39, 0)", x.cell(1, 39, 0), 1);
        Checks.due("cell(2, 0, 0)", x.cell(2, 0, 0), -11);
        x.sheet(0, -1, 0);
        x.text();
        x.back();
        Checks.due("cell(0, 0, 0)", x.cell(0, 0, 0), -11);
        Checks.due("count(5)", x.count(5), 0);
    }

    private static void backRefused() {
        Checks.begin("promise 22: STATE, there is none");
        Refusals empty = new Refusals(Roads::empty);
        empty.due("back()", SolesByWhatIsTold::back, -3);
        Refusals six = new Refusals(() -> {
            SolesByWhatIsTold x = new SolesByWhatIsTold();
            for (int i = 0; i < 6; i++) {
                x.walker(i, i, i);
                x.set(5, i, 50 + i);
            }
            x.set(0, 0, 999);
            return x;
        });
        six.due("back() of six", SolesByWhatIsTold::back, -3);
    }

    // ---- promise 23

    private static void countAtBounds() {
        Checks.begin("promise 23: how many, from none to all");
        SolesByWhatIsTold x = new SolesByWhatIsTold();
        int[] none = {0, 0, 0, 0, 1, 0, 0};
        for (int what = 0; what < 7; what++) {
            Checks.due("count(" + what + ") of a new object", x.count(what), none[what]);
        }
        x = Roads.full();
        int[] all = {6, 999, 0, 0, 6, 160, 0};
        for (int what = 0; what < 7; what++) {
            Checks.due("count(" + what + ")", x.count(what), all[what]);
        }
        x.force(5);
        Checks.due("count(6)", x.count(6), 5);
        for (int many = 0; many <= 6; many++) {
            x = new SolesByWhatIsTold();
            for (int i = 0; i < 6; i++) {
                x.walker(0, 0, 1);
                x.set(4, i, 1);
                x.set(6, i, i < many ? 35 : 34);
            }
            Checks.due("count(2): in SOCKS, WORN LASTS or more", x.count(2), many);
            Checks.due("count(3)", x.count(3), 0);
            for (int i = 0; i < 6; i++) {
                x.set(6, i, 0);
                x.set(4, i, i < many ? 0 : 1);
            }
            x.set(1, 0, 51);
            Checks.due("count(2)", x.count(2), 0);
            Checks.due("count(3): STOPPED", x.count(3), many);
            x.set(1, 0, 50);
            Checks.due("count(3)", x.count(3), 0);
            Checks.due("count(0)", x.count(0), 6);
        }
    }

    private static void countRefused() {
        Checks.begin("promise 23: BAD");
        Refusals[] roads = {new Refusals(Roads::empty), new Refusals(Roads::some), new Refusals(Roads::full)};
        for (Refusals road : roads) {
            int[] whats = {LEAST, -1, 7, 8, 256, MOST};
            for (int what : whats) {
                road.due("count(" + what + ")", x -> x.count(what), BAD);
            }
        }
    }
}
