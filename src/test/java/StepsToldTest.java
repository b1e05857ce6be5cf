/** Promises 17 to 23: tells, film, drawn, chance, image, back, count. */
public final class StepsToldTest {
    private static final int BAD = SolesByWhatIsTold.BAD, NONE = SolesByWhatIsTold.NONE;
    private static final long NO = SolesByWhatIsTold.NO;

    public static void main(String[] args) {
        promise17();
        promise17Sets();
        promise17Texts();
        promise17Sorts();
        promise17Refusals();
        promise18();
        promise19();
        promise20();
        promise20Edges();
        promise21And22();
        promise23();
        Checks.end();
    }

    private static void promise17() {
        Checks.begin("promise 17");
        SolesByWhatIsTold x = new SolesByWhatIsTold();
        x.walker(5, 3, 0);
        x.set(5, 0, 10);
        Checks.row(x, 2, 1, 13, 16, 19);
        Checks.due("tells(2, 0, 0)", x.tells(2, 0, 0), NONE);
        Checks.due("tells(2, 0, 1)", x.tells(2, 0, 1), 32);
        Checks.due("tells(2, 0, 2)", x.tells(2, 0, 2), 8);
        Checks.due("tells(2, 0, 3)", x.tells(2, 0, 3), 1);
        Checks.due("tells(2, 0, 4)", x.tells(2, 0, 4), 0);
        Checks.due("tells(2, 0, 5)", x.tells(2, 0, 5), 1);
        Checks.due("tells(2, 0, 6)", x.tells(2, 0, 6), 1);
        Checks.due("tells(2, 0, 7)", x.tells(2, 0, 7), 10);
        Checks.due("STEP is as it was", x.told(0, 5), 10);
        Checks.due("KIND is as it was", x.told(0, 7), 5);
        Checks.due("NUMBER is as it was", x.told(0, 2), 3);
        x.cell(2, 2, 20);
        Checks.due("tells(2, 0, 0)", x.tells(2, 0, 0), 2);
        for (int what = 1; what < 8; what++) {
            Checks.due("tells(2, 0, what)", x.tells(2, 0, what), what == 4 || what == 7 ? NONE : 0);
        }
        x.cell(2, 0, 14);
        Checks.due("tells(2, 0, 0)", x.tells(2, 0, 0), 0);
        // at STEP 999 one stays in sight, from whichever STEP one came
        Checks.row(x, 1, 2, 999, 999);
        x.set(5, 0, 998);
        Checks.due("tells(1, 0, 0)", x.tells(1, 0, 0), NONE);
        Checks.due("tells(1, 0, 6)", x.tells(1, 0, 6), 4);
        Checks.due("tells(1, 0, 7)", x.tells(1, 0, 7), 996);
        Checks.due("tells(1, 0, 2)", x.tells(1, 0, 2), 0x3fe);
        // of no numbers all are told
        Checks.row(x, 1, 0);
        Checks.due("tells(1, 0, 0)", x.tells(1, 0, 0), NONE);
        Checks.due("tells(1, 0, 1)", x.tells(1, 0, 1), 63);
        Checks.due("tells(1, 0, 2)", x.tells(1, 0, 2), 1023);
        Checks.due("tells(1, 0, 6)", x.tells(1, 0, 6), 1000);
        Checks.due("tells(1, 0, 7)", x.tells(1, 0, 7), 0);
        // all KINDS but a DOG stand: by a PACE of 0, or in SOCKS
        x.walker(0, 2, 0);
        Checks.rule(x, "1", "0", "0");
        Checks.row(x, 3, 2, 0, 0, 0);
        Checks.due("tells(3, 1, 1)", x.tells(3, 1, 1), 31);
        Checks.row(x, 3, 2, 1, 1, 1);
        Checks.due("tells(3, 1, 1)", x.tells(3, 1, 1), 0);
        Checks.rule(x, "2", "0", "0");
        Checks.due("tells(3, 1, 1)", x.tells(3, 1, 1), 4 + 16);
        Checks.row(x, 3, 2, 2, 4, 6);
        Checks.due("tells(3, 1, 1)", x.tells(3, 1, 1), 32);
    }

    private static void promise17Sets() {
        Checks.begin("promise 17, sets");
        SolesByWhatIsTold x = new SolesByWhatIsTold();
        x.walker(0, 0, 0x83);
        x.set(4, 0, 0x7f);
        // PACE is 10 less the UNTOLD weight; weights 2, 2, 3
        x.set(1, 0, 2);
        x.set(1, 1, 2);
        x.set(1, 7, 3);
        Checks.row(x, 0, 0, 5, 10);
        // untold 5: one of 0 and 1 is told (LASTS 11); 7 is not
        Checks.due("tells(0, 0, 3)", x.tells(0, 0, 3), 2);
        Checks.due("tells(0, 0, 4)", x.tells(0, 0, 4), 1);
        Checks.due("tells(0, 0, 0)", x.tells(0, 0, 0), 0);
        x.cell(0, 1, 9);
        Checks.due("tells(0, 0, 3)", x.tells(0, 0, 3), 0);
        x.cell(0, 0, 6);
        x.cell(0, 1, 12);
        // untold 4: 7 is told
        Checks.due("tells(0, 0, 3)", x.tells(0, 0, 3), 1);
        Checks.due("tells(0, 0, 4)", x.tells(0, 0, 4), 0x80);
        x.cell(0, 0, 1);
        Checks.due("tells(0, 0, 3)", x.tells(0, 0, 3), 0);
        Checks.due("tells(0, 0, 4)", x.tells(0, 0, 4), NONE);
        Checks.due("TOLD is as it was", x.told(0, 4), 0x7f);
        Checks.row(x, 0, 0);
        x.set(3, 0, 255);
        Checks.due("tells(0, 0, 3)", x.tells(0, 0, 3), 256);
        x.set(3, 0, 0x90);
        Checks.due("tells(0, 0, 3)", x.tells(0, 0, 3), 4);
        Checks.due("tells(0, 0, 4)", x.tells(0, 0, 4), 0);
    }

    private static void promise17Texts() {
        Checks.begin("promise 17, texts");
        SolesByWhatIsTold x = new SolesByWhatIsTold();
        x.walker(0, 0, 0);
        Checks.row(x, 0, 0, 5, 5);
        Checks.due("tells(0, 0, 5)", x.tells(0, 0, 5), 1);
        Checks.due("text()", Checks.text(x, "lasts 5;paces 5;stops 0;"), 1);
        Checks.due("text()", Checks.text(x, "lasts 6;paces 5;stops 0;"), 2);
        Checks.due("text()", Checks.text(x, "lasts 9;paces 5;stops day = 1;"), 3);
        Checks.due("text()", Checks.text(x, "lasts 9;paces 5;stops 1;"), 4);
        Checks.due("text()", Checks.text(x, "lasts 5;paces 99;stops 0;"), 5);
        Checks.due("tells(0, 0, 5)", x.tells(0, 0, 5), 1 + 2 + 8 + 32);
        x.force(4);
        Checks.due("tells(0, 0, 5)", x.tells(0, 0, 5), 1 + 2 + 8 + 32);
        Checks.due("tells(0, 0, 0)", x.tells(0, 0, 0), 0);
        Checks.due("count(6)", x.count(6), 4);
        x.set(0, 0, 1);
        Checks.due("tells(0, 0, 5) on DAY 1", x.tells(0, 0, 5), 1 + 2 + 32);
    }

    private static void promise17Sorts() {
        Checks.begin("promise 17, sorts");
        SolesByWhatIsTold x = new SolesByWhatIsTold();
        x.walker(5, 3, 0);
        x.set(5, 0, 124);
        Checks.row(x, 0, 0, 127, 130);
        // a byte's lowest 8 bits are read as Java reads a byte
        Checks.due("tells(0, 0, 0) of bytes", x.tells(0, 0, 0), 1);
        Checks.row(x, 0, 1, 127, 130 + 65536);
        Checks.due("tells(0, 0, 0) of shorts", x.tells(0, 0, 0), NONE);
        Checks.row(x, 0, 2, 127, 130 + 65536);
        Checks.due("tells(0, 0, 0) of ints", x.tells(0, 0, 0), 1);
        // 40 numbers, the last one otherwise
        x.set(5, 0, 0);
        x.film(1, 0, 40);
        Checks.due("tells(1, 0, 0)", x.tells(1, 0, 0), NONE);
        x.cell(1, 39, 121);
        Checks.due("tells(1, 0, 0)", x.tells(1, 0, 0), 39);
    }

    private static void promise17Refusals() {
        Checks.begin("promise 17, refusals");
        SolesByWhatIsTold x = new SolesByWhatIsTold();
        x.walker(0, 0, 0);
        Checks.due("tells(4, 0, 0)", x.tells(4, 0, 0), BAD);
        Checks.due("tells(-1, 0, 0)", x.tells(-1, 0, 0), BAD);
        Checks.due("tells(0, 1, 0), missing", x.tells(0, 1, 0), BAD);
        Checks.due("tells(0, -1, 0), missing", x.tells(0, -1, 0), BAD);
        Checks.due("tells(0, 0, 8), missing", x.tells(0, 0, 8), BAD);
        Checks.due("tells(0, 0, -1), missing", x.tells(0, 0, -1), BAD);
        for (int what = 0; what < 8; what++) {
            Checks.due("tells(3, 0, what), missing", x.tells(3, 0, what), -11);
        }
    }

    private static void promise18() {
        Checks.begin("promise 18");
        SolesByWhatIsTold x = new SolesByWhatIsTold();
        x.walker(0, 0, 1);
        x.set(4, 0, 1);
        x.set(5, 0, 700);
        Checks.due("film(1, 0, 5)", x.film(1, 0, 5), 5);
        Checks.due("cell(1, 4, ..)", x.cell(1, 5, 0), -12);
        dueItem(x, 1, 0, 710);
        dueItem(x, 1, 1, 720);
        dueItem(x, 1, 2, 730);
        dueItem(x, 1, 3, 735);
        dueItem(x, 1, 4, 735);
        Checks.due("STEP is as it was", x.told(0, 5), 700);
        Checks.due("count(1)", x.count(1), 0);
        // what the SHEET was does not matter; now it is shorts
        x.sheet(2, 2, 40);
        Checks.due("film(2, 0, 0)", x.film(2, 0, 0), 0);
        Checks.due("cell(2, 0, 0)", x.cell(2, 0, 0), -12);
        x.sheet(3, 1, 0);
        Checks.due("copy(2, 0, 3, 0, 0)", x.copy(2, 0, 3, 0, 0), 0);
        Checks.due("film(0, 0, 40)", x.film(0, 0, 40), 40);
        Checks.due("tells(0, 0, 0)", x.tells(0, 0, 0), NONE);
        Checks.due("film(4, 0, 0)", x.film(4, 0, 0), BAD);
        Checks.due("film(-1, 0, 0)", x.film(-1, 0, 0), BAD);
        Checks.due("film(0, 2, 0)", x.film(0, 2, 0), BAD);
        Checks.due("film(0, -1, 0)", x.film(0, -1, 0), BAD);
        Checks.due("film(0, 0, 41)", x.film(0, 0, 41), BAD);
        Checks.due("film(0, 0, -1)", x.film(0, 0, -1), BAD);
        Checks.due("tells(0, 0, 0) behind refusals", x.tells(0, 0, 0), NONE);
        Checks.due("cell(0, 39, 735)", x.cell(0, 39, 735), 1);
        // behind 40 DAYS, though DAY passes 999
        x.set(0, 0, 999);
        Checks.rule(x, "999", "day = 1000", "0");
        x.film(0, 0, 3);
        dueItem(x, 0, 0, 700);
        dueItem(x, 0, 1, 701);
        dueItem(x, 0, 2, 701);
    }

    /** An item of shorts, read by a WALKER that stands where it tells. */
    private static void dueItem(SolesByWhatIsTold x, int sheet, int i, int wanted) {
        x.sheet(3, 1, 1);
        Checks.due("copy()", x.copy(sheet, i, 3, 0, 1), 1);
        if (x.count(0) == 1) {
            x.walker(5, 0, 0);
        }
        x.set(5, 1, wanted);
        Checks.due("item " + i + " is " + wanted + "; tells()", x.tells(3, 1, 0), NONE);
    }

    private static int drawnWeight(int seed, int thing) {
        long z = seed;
        for (int i = 0; i <= thing; i++) {
            z = z * 1103515245L + 12345L & 0xffffffffL;
        }
        return (int) ((z & 0xffffffffL) / 512 % 30);
    }

    private static void promise19() {
        Checks.begin("promise 19");
        int[] seeds = {0, 1, 5, -1, 12345, Integer.MAX_VALUE, Integer.MIN_VALUE};
        for (int seed : seeds) {
            for (int thing = 0; thing < 8; thing++) {
                SolesByWhatIsTold x = new SolesByWhatIsTold();
                x.walker(0, 0, 1 << thing);
                Checks.rule(x, "999", "untold", "0");
                int heavy = drawnWeight(seed, thing);
                Checks.due("drawn(seed, 1)", x.drawn(seed, 1), heavy);
                Checks.due("drawn(seed, 3)", x.drawn(seed, 3), 3 * heavy);
                Checks.due("drawn(seed, 0)", x.drawn(seed, 0), 0);
                Checks.due("weights are as they were", x.told(thing, 1), 10);
                x.walker(5, 4, 0);
                x.set(5, 1, 100);
                Checks.due("drawn(seed, 1) of two", x.drawn(seed, 1), heavy + 104);
            }
        }
        SolesByWhatIsTold x = new SolesByWhatIsTold();
        Checks.due("drawn(1, 40) of none", x.drawn(1, 40), 0);
        Checks.due("drawn(1, 41)", x.drawn(1, 41), BAD);
        Checks.due("drawn(1, -1)", x.drawn(1, -1), BAD);
    }

    private static void promise20() {
        Checks.begin("promise 20");
        SolesByWhatIsTold x = new SolesByWhatIsTold();
        x.walker(0, 0, 4);
        Checks.rule(x, "999", "1", "untold < 15");
        int[] seeds = {0, 7, -3, Integer.MAX_VALUE - 4};
        for (int seed : seeds) {
            for (int m = 1; m <= 20; m++) {
                int above = 0;
                for (int i = 0; i < m; i++) {
                    above += drawnWeight(seed + i, 2) < 15 ? 1 : 0;
                }
                int by = 1;
                for (int d = 1; d <= m; d++) {
                    by = above % d == 0 && m % d == 0 ? d : by;
                }
                Checks.due("chance(seed, m, 0)", x.chance(seed, m, 0), above / by);
                Checks.due("chance(seed, m, 1)", x.chance(seed, m, 1), m / by);
            }
        }
    }

    private static void promise20Edges() {
        Checks.begin("promise 20, edges");
        SolesByWhatIsTold x = new SolesByWhatIsTold();
        Checks.due("chance(0, 20, 0) of none", x.chance(0, 20, 0), 1);
        Checks.due("chance(0, 20, 1) of none", x.chance(0, 20, 1), 1);
        Checks.due("chance(0, 0, 0)", x.chance(0, 0, 0), NO);
        Checks.due("chance(0, -1, 0)", x.chance(0, -1, 0), NO);
        Checks.due("chance(0, 21, 0)", x.chance(0, 21, 0), NO);
        Checks.due("chance(0, 1, 2)", x.chance(0, 1, 2), NO);
        Checks.due("chance(0, 1, -1)", x.chance(0, 1, -1), NO);
        Checks.rule(x, "99", "1", "0");
        Checks.due("chance(0, 20, 0) of none, by another RULE", x.chance(0, 20, 0), 1);
        // in SOCKS behind the tenth DAY, not behind an eleventh
        x.walker(0, 0, 0);
        Checks.rule(x, "10", "1", "0");
        Checks.due("chance(0, 4, 0)", x.chance(0, 4, 0), 1);
        Checks.due("chance(0, 4, 1)", x.chance(0, 4, 1), 1);
        Checks.rule(x, "11", "1", "0");
        Checks.due("chance(0, 4, 0)", x.chance(0, 4, 0), 0);
        Checks.due("chance(0, 4, 1)", x.chance(0, 4, 1), 1);
        // to have stayed in the tenth is enough
        Checks.rule(x, "99", "1", "day = 9");
        Checks.due("chance(0, 4, 0)", x.chance(0, 4, 0), 1);
        Checks.rule(x, "99", "1", "day = 10");
        Checks.due("chance(0, 4, 0)", x.chance(0, 4, 0), 0);
        // each of them
        x.force(2);
        x.walker(5, 1, 0);
        Checks.due("chance(0, 4, 0)", x.chance(0, 4, 0), 0);
        x.set(2, 1, 9);
        x.set(6, 1, 909);
        Checks.due("chance(0, 4, 0)", x.chance(0, 4, 0), 1);
        x.set(6, 1, 908);
        Checks.due("chance(0, 4, 0)", x.chance(0, 4, 0), 0);
    }

    private static void promise21And22() {
        Checks.begin("promises 21 and 22");
        SolesByWhatIsTold x = new SolesByWhatIsTold();
        Checks.due("back()", x.back(), SolesByWhatIsTold.STATE);
        x.walker(3, 5, 9);
        x.walker(2, 6, 17);
        int[] kept = {7, 21, 4, 33, 44, 55, 66};
        for (int what = 0; what < 7; what++) {
            x.set(what, 1, kept[what]);
        }
        Checks.text(x, "lasts 77;paces 2;stops 3;");
        x.force(1);
        Checks.due("image()", x.image(), 2);
        for (int what = 0; what < 7; what++) {
            x.set(what, 1, 1);
            x.set(what, 0, 2);
        }
        x.force(0);
        x.walker(4, 9, 255);
        x.walker(1, 9, 255);
        x.set(4, 2, 255);
        x.set(5, 2, 77);
        x.set(6, 2, 88);
        Checks.text(x, "lasts 1;paces 2;stops 3;");
        x.feed('l');
        x.sheet(0, 2, 3);
        Checks.due("back()", x.back(), 2);
        for (int what = 0; what < 7; what++) {
            Checks.due("told(1, what)", x.told(1, what), kept[what]);
        }
        Checks.due("told(0, 1)", x.told(0, 1), 10);
        Checks.due("told(0, 2)", x.told(0, 2), 5);
        Checks.due("told(0, 3)", x.told(0, 3), 9);
        Checks.due("told(0, 6)", x.told(0, 6), 0);
        Checks.due("told(0, 7)", x.told(0, 7), 3);
        Checks.due("count(0)", x.count(0), 2);
        Checks.due("count(6)", x.count(6), 1);
        Checks.due("told(2, 7)", x.told(2, 7), BAD);
        // TEXTS, THE TAPE and SHEETS are not kept, so they stay as they are
        Checks.due("count(4)", x.count(4), 3);
        Checks.due("count(5)", x.count(5), 1);
        Checks.due("cell(0, 2, 0)", x.cell(0, 2, 0), 1);
        // who comes then comes anew
        Checks.due("walker(0, 1, 2)", x.walker(0, 1, 2), 2);
        Checks.due("told(2, 7)", x.told(2, 7), 0);
        Checks.due("told(2, 4)", x.told(2, 4), 0);
        Checks.due("told(2, 5)", x.told(2, 5), 0);
        Checks.due("told(2, 6)", x.told(2, 6), 0);
        // THE IMAGE stands yet
        x.day();
        x.mend(1);
        Checks.due("back()", x.back(), 2);
        Checks.due("count(1)", x.count(1), 7);
        Checks.due("told(1, 6)", x.told(1, 6), 66);
        // a new one takes its place
        x.walker(0, 1, 2);
        x.set(5, 2, 123);
        Checks.due("image()", x.image(), 3);
        x.set(5, 2, 0);
        x.set(1, 7, 99);
        Checks.due("back()", x.back(), 3);
        Checks.due("told(2, 5)", x.told(2, 5), 123);
        Checks.due("told(7, 1)", x.told(7, 1), 10);
        x = new SolesByWhatIsTold();
        Checks.due("image() of none", x.image(), 0);
        x.walker(0, 0, 0);
        Checks.due("back()", x.back(), 0);
        Checks.due("count(0)", x.count(0), 0);
    }

    private static void promise23() {
        Checks.begin("promise 23");
        SolesByWhatIsTold x = new SolesByWhatIsTold();
        x.walker(5, 1, 1);
        x.walker(0, 1, 0);
        x.walker(0, 1, 0);
        x.set(6, 2, 5);
        x.set(6, 0, 999);
        x.set(0, 0, 12);
        Checks.text(x, "lasts 77;paces 2;stops 3;");
        x.feed(1);
        x.feed(2);
        x.feed(3);
        int[] wanted = {3, 12, 2, 1, 2, 3, 0};
        for (int what = 0; what < 7; what++) {
            Checks.due("count(" + what + ")", x.count(what), wanted[what]);
        }
        x.force(1);
        Checks.due("count(6)", x.count(6), 1);
        Checks.due("count(3)", x.count(3), 3);
        Checks.due("count(2)", x.count(2), 1);
        Checks.due("text() of no letters", x.text(), -100);
        Checks.rule(x, "0", "0", "1");
        Checks.due("count(2), of WALKERS alone", x.count(2), 3);
        Checks.due("count(3), of WALKERS alone", x.count(3), 3);
        Checks.due("count(7)", x.count(7), BAD);
        Checks.due("count(-1)", x.count(-1), BAD);
    }
}
