/** Promises 1 to 4, the sentences that name a bound: each at it, behind it, and far outside. */
public final class EdgesOfThingsTest {
    private static final int BAD = SolesByWhatIsTold.BAD, NONE = SolesByWhatIsTold.NONE;
    private static final int LEAST = Refusals.LEAST, MOST = Refusals.MOST;
    /** The most of DAY, HEAVY, NUMBER, TIES, TOLD, STEP, WORN. */
    private static final int[] MOSTS = {999, 99, 9, 255, 255, 999, 9999};

    public static void main(String[] args) {
        noWalkers();
        allAtFirst();
        firstRule();
        constants();
        lastOfAllCalls();
        setAtBounds();
        setChangesOneAlone();
        setRefused();
        setTold();
        walkerAtBounds();
        walkerRefused();
        walkerComesAnew();
        toldAsOfSet();
        toldRefused();
        toldWeights();
        toldLasts();
        toldPaces();
        toldStopped();
        toldSocks();
        toldNames();
        Checks.end();
    }

    // ---- promise 1

    private static void noWalkers() {
        Checks.begin("promise 1: no WALKERS");
        SolesByWhatIsTold x = new SolesByWhatIsTold();
        Checks.due("count(0)", x.count(0), 0);
        Checks.due("count(2)", x.count(2), 0);
        Checks.due("count(3)", x.count(3), 0);
        for (int what = 2; what < 14; what++) {
            Checks.due("told(0, " + what + ")", x.told(0, what), BAD);
        }
        for (int what = 2; what < 7; what++) {
            Checks.due("set(" + what + ", 0, 0)", x.set(what, 0, 0), BAD);
        }
        Checks.due("run(0, 0, 0)", x.run(0, 0, 0), BAD);
        Checks.due("mend(0)", x.mend(0), BAD);
        Checks.due("far(0, 0, 0)", x.far(0, 0, 0), BAD);
        Checks.due("least(0, 0, 0)", x.least(0, 0, 0), BAD);
        Checks.due("heaviest(0, 0, 0)", x.heaviest(0, 0, 0), BAD);
        Checks.due("spare(0, 0)", x.spare(0, 0), BAD);
        Checks.due("film(0, 0, 0)", x.film(0, 0, 0), BAD);
        Checks.due("tells(0, 0, 0)", x.tells(0, 0, 0), BAD);
        Checks.due("taken(0, 0)", x.taken(0, 0), -11);
        Checks.due("away(0, 0)", x.away(0, 0), NONE);
        Checks.due("keeper(40, 1)", x.keeper(40, 1), 0);
        Checks.due("drawn(7, 40)", x.drawn(7, 40), 0);
        Checks.due("day()", x.day(), 0);
        Checks.due("walker(0, 0, 0), the first", x.walker(0, 0, 0), 0);
    }

    private static void allAtFirst() {
        Checks.begin("promise 1: what is at first");
        SolesByWhatIsTold other = Roads.full();
        other.set(1, 3, 77);
        SolesByWhatIsTold x = new SolesByWhatIsTold();
        Checks.due("told(0, 0): DAY is 0 at first", x.told(0, 0), 0);
        for (int thing = 0; thing < 8; thing++) {
            Checks.due("told(" + thing + ", 1): 10 at first", x.told(thing, 1), 10);
        }
        Checks.due("count(4): TEXT 0 alone", x.count(4), 1);
        Checks.due("count(5): THE TAPE is empty", x.count(5), 0);
        Checks.due("count(6): TEXT 0 is THE RULE", x.count(6), 0);
        Checks.due("back(): no IMAGE", x.back(), -3);
        x.walker(0, 0, 0);
        for (int sheet = 0; sheet < 4; sheet++) {
            Checks.due("cell(" + sheet + ", 0, 0): missing", x.cell(sheet, 0, 0), -11);
            Checks.due("tells(" + sheet + ", 0, 0): missing", x.tells(sheet, 0, 0), -11);
            Checks.due("copy(" + sheet + ", 0, " + sheet + ", 0, 0): missing", x.copy(sheet, 0, sheet, 0, 0), -11);
        }
        Checks.due("another one has its own THINGS", other.told(3, 1), 77);
        Checks.due("another one has its own WALKERS", other.count(0), 6);
    }

    private static void firstRule() {
        Checks.begin("promise 1: TEXT 0");
        SolesByWhatIsTold x = new SolesByWhatIsTold();
        x.walker(0, 0, 15);
        Checks.due("untold 40: LASTS", x.told(0, 10), 5);
        Checks.due("untold 40: PACE, 0 else", x.told(0, 11), 0);
        for (int thing = 0; thing < 3; thing++) {
            x.set(1, thing, 99);
        }
        x.set(4, 0, 15);
        x.set(1, 3, 34);
        Checks.due("told 331: LASTS", x.told(0, 10), 998);
        x.set(1, 3, 35);
        Checks.due("told 332: LASTS, 999 else", x.told(0, 10), 999);
        x.set(3, 0, 1);
        x.set(4, 0, 0);
        int[][] due = {{0, 10, 0}, {1, 9, 0}, {9, 1, 0}, {10, 0, 0}, {11, 0, 0}, {50, 0, 0}, {51, 0, 1}, {99, 0, 1}};
        for (int[] row : due) {
            x.set(1, 0, row[0]);
            Checks.due("untold " + row[0] + ": PACE", x.told(0, 11), row[1]);
            Checks.due("untold " + row[0] + ": STOPPED", x.told(0, 12), row[2]);
        }
    }

    private static void constants() {
        Checks.begin("Terms: NONE, NO, refusals");
        Checks.due("NONE", SolesByWhatIsTold.NONE, -1);
        Checks.due("BAD", SolesByWhatIsTold.BAD, -2);
        Checks.due("STATE", SolesByWhatIsTold.STATE, -3);
        Checks.due("FULL", SolesByWhatIsTold.FULL, -4);
        Checks.due("NO", SolesByWhatIsTold.NO, -4611686018427387904L);
    }

    private static void lastOfAllCalls() {
        Checks.begin("What it is: an object is used for at most 512 calls");
        SolesByWhatIsTold x = Roads.empty();
        x.walker(5, 1, 0);
        for (int call = 2; call <= 511; call++) {
            Checks.due("day(), call " + call, x.day(), 1);
        }
        Checks.due("told(0, 5), call 512", x.told(0, 5), 510);
        x = Roads.empty();
        for (int call = 1; call <= 510; call++) {
            x.feed(call > 160 ? '?' : call > 136 ? Roads.PLAIN.charAt(call - 137) : ' ');
        }
        Checks.due("text(), call 511", x.text(), 1);
        Checks.due("count(4), call 512", x.count(4), 2);
    }

    // ---- promise 2

    private static SolesByWhatIsTold three() {
        SolesByWhatIsTold x = new SolesByWhatIsTold();
        for (int i = 0; i < 3; i++) {
            x.walker(i, i + 1, i + 2);
        }
        return x;
    }

    private static void setAtBounds() {
        Checks.begin("promise 2: 0 .. the most");
        SolesByWhatIsTold x = three();
        for (int what = 0; what < 7; what++) {
            int last = what == 1 ? 7 : 2;
            int[] places = {0, last};
            for (int of : places) {
                String call = "set(" + what + ", " + of + ", ..)";
                x.set(what, of, 1);
                Checks.due(call + " of the most: what it was", x.set(what, of, MOSTS[what]), 1);
                Checks.due(call + " of the most again", x.set(what, of, MOSTS[what]), MOSTS[what]);
                Checks.due(call + " of 0: what it was", x.set(what, of, 0), MOSTS[what]);
                Checks.due(call + " of 0 again", x.set(what, of, 0), 0);
            }
        }
        int was = 0;
        int[] any = {LEAST, -1, 0, 3, 8, 255, MOST};
        for (int of : any) {
            Checks.due("set(0, " + of + ", ..): of does not matter", x.set(0, of, was + 9), was);
            was += 9;
        }
    }

    private static void setChangesOneAlone() {
        Checks.begin("promise 2: what becomes v, and nothing else");
        for (int what = 0; what < 7; what++) {
            for (int of = 0; of < (what == 1 ? 8 : what == 0 ? 1 : 3); of++) {
                SolesByWhatIsTold x = three();
                SolesByWhatIsTold y = three();
                x.set(what, of, 6);
                for (int other = 0; other < 7; other++) {
                    for (int at = 0; at < (other == 1 ? 8 : 3); at++) {
                        boolean same = other == what && (at == of || what == 0);
                        Checks.due("told(" + at + ", " + other + ") behind set(" + what + ", " + of + ", 6)",
                            x.told(at, other), same ? 6 : y.told(at, other));
                    }
                }
                for (int one = 0; one < 3; one++) {
                    Checks.due("KIND is as it was", x.told(one, 7), one);
                }
            }
        }
    }

    private static void setRefused() {
        Checks.begin("promise 2: BAD");
        Refusals some = new Refusals(Roads::some);
        Refusals full = new Refusals(Roads::full);
        Refusals empty = new Refusals(Roads::empty);
        for (int what = 0; what < 7; what++) {
            int w = what;
            int[] values = {LEAST, -1, MOSTS[what] + 1, MOSTS[what] + 65536, MOST};
            for (int v : values) {
                some.due("set(" + w + ", 1, " + v + ")", x -> x.set(w, 1, v), BAD);
                full.due("set(" + w + ", 5, " + v + ")", x -> x.set(w, 5, v), BAD);
            }
            int[] places = {LEAST, -1, what == 1 ? 8 : 3, 256, MOST};
            for (int of : places) {
                if (what > 0) {
                    some.due("set(" + w + ", " + of + ", 1)", x -> x.set(w, of, 1), BAD);
                }
            }
            if (what > 1) {
                empty.due("set(" + w + ", 0, 1) of none", x -> x.set(w, 0, 1), BAD);
                full.due("set(" + w + ", 6, 1)", x -> x.set(w, 6, 1), BAD);
            }
        }
        int[] whats = {LEAST, -1, 7, 8, 256, MOST};
        for (int what : whats) {
            some.due("set(" + what + ", 0, 0)", x -> x.set(what, 0, 0), BAD);
        }
    }

    private static void setTold() {
        Checks.begin("promise 2: TOLD, bits 0 .. 7; what is no TIE doesn't count");
        SolesByWhatIsTold x = new SolesByWhatIsTold();
        x.walker(0, 0, 0);
        for (int thing = 0; thing < 8; thing++) {
            x.set(1, thing, 1 + thing);
            x.set(3, 0, 1 << thing);
            x.set(4, 0, 1 << thing);
            Checks.due("a TIE that is TOLD: TOLD weight", x.told(0, 8), 1 + thing);
            Checks.due("a TIE that is TOLD: UNTOLD weight", x.told(0, 9), 0);
            x.set(4, 0, 255 - (1 << thing));
            Checks.due("all but the TIE are TOLD: TOLD", x.told(0, 4), 255 - (1 << thing));
            Checks.due("all but the TIE are TOLD: TOLD weight", x.told(0, 8), 0);
            Checks.due("all but the TIE are TOLD: UNTOLD weight", x.told(0, 9), 1 + thing);
        }
    }

    // ---- promise 3

    private static void walkerAtBounds() {
        Checks.begin("promise 3: KIND 0 .. 5, NUMBER 0 .. 9, TIES bits 0 .. 7; 6 at most, numbered from 0");
        int[][] first = {{0, 0, 0}, {5, 9, 255}, {0, 9, 255}, {5, 0, 0}, {1, 0, 128}, {4, 9, 1}};
        SolesByWhatIsTold x = new SolesByWhatIsTold();
        for (int i = 0; i < 6; i++) {
            Checks.due("walker()", x.walker(first[i][0], first[i][1], first[i][2]), i);
            Checks.due("count(0)", x.count(0), i + 1);
            Checks.due("KIND", x.told(i, 7), first[i][0]);
            Checks.due("NUMBER", x.told(i, 2), first[i][1]);
            Checks.due("TIES", x.told(i, 3), first[i][2]);
            for (int what = 4; what < 7; what++) {
                Checks.due("told(i, " + what + "): 0 as one comes", x.told(i, what), 0);
            }
            Checks.due("UNTOLD weight: none is TOLD yet", x.told(i, 9), 10 * Integer.bitCount(first[i][2]));
        }
        Checks.due("walker(0, 0, 0), a seventh", x.walker(0, 0, 0), -4);
    }

    private static void walkerRefused() {
        Checks.begin("promise 3: BAD; FULL");
        Refusals[] roads = {new Refusals(Roads::empty), new Refusals(Roads::some), new Refusals(Roads::full)};
        for (Refusals road : roads) {
            int[] kinds = {LEAST, -1, 6, 256, MOST};
            for (int kind : kinds) {
                road.due("walker(" + kind + ", 0, 0)", x -> x.walker(kind, 0, 0), BAD);
            }
            int[] numbers = {LEAST, -1, 10, 256, MOST};
            for (int number : numbers) {
                road.due("walker(0, " + number + ", 0)", x -> x.walker(0, number, 0), BAD);
            }
            int[] ties = {LEAST, -1, 256, 511, MOST};
            for (int bits : ties) {
                road.due("walker(0, 0, " + bits + ")", x -> x.walker(0, 0, bits), BAD);
            }
        }
        roads[2].due("walker(0, 0, 0), full", x -> x.walker(0, 0, 0), -4);
        roads[2].due("walker(5, 9, 255), full", x -> x.walker(5, 9, 255), -4);
    }

    private static void walkerComesAnew() {
        Checks.begin("promise 3: TOLD, STEP, WORN are 0 as one comes, whoever had the number");
        SolesByWhatIsTold x = new SolesByWhatIsTold();
        x.image();
        for (int i = 0; i < 6; i++) {
            x.walker(5, 9, 255);
            for (int what = 2; what < 7; what++) {
                x.set(what, i, 8);
            }
        }
        x.back();
        for (int i = 0; i < 6; i++) {
            Checks.due("walker(0, 0, 3)", x.walker(0, 0, 3), i);
            int[] wanted = {0, 3, 0, 0, 0, 0, 0, 20};
            for (int what = 2; what < 10; what++) {
                Checks.due("told(i, " + what + ")", x.told(i, what), wanted[what - 2]);
            }
        }
    }

    // ---- promise 4

    private static void toldAsOfSet() {
        Checks.begin("promise 4: what 0 .. 6 as of set()");
        SolesByWhatIsTold x = three();
        int[] any = {LEAST, -1, 0, 3, 8, MOST};
        x.set(0, 0, 999);
        for (int of : any) {
            Checks.due("told(" + of + ", 0): of does not matter", x.told(of, 0), 999);
        }
        for (int what = 1; what < 7; what++) {
            int last = what == 1 ? 7 : 2;
            x.set(what, last, MOSTS[what]);
            Checks.due("told(" + last + ", " + what + ")", x.told(last, what), MOSTS[what]);
            x.set(what, 0, 0);
            Checks.due("told(0, " + what + ")", x.told(0, what), 0);
        }
    }

    private static void toldRefused() {
        Checks.begin("promise 4: BAD");
        Refusals[] roads = {new Refusals(Roads::empty), new Refusals(Roads::some), new Refusals(Roads::full)};
        for (Refusals road : roads) {
            int[] whats = {LEAST, -1, 14, 15, 256, MOST};
            for (int what : whats) {
                road.due("told(0, " + what + ")", x -> x.told(0, what), BAD);
            }
            int[] things = {LEAST, -1, 8, 256, MOST};
            for (int thing : things) {
                road.due("told(" + thing + ", 1)", x -> x.told(thing, 1), BAD);
            }
            for (int what = 2; what < 14; what++) {
                int w = what;
                int[] places = {LEAST, -1, 6, MOST};
                for (int one : places) {
                    road.due("told(" + one + ", " + w + ")", x -> x.told(one, w), BAD);
                }
            }
        }
        for (int what = 2; what < 14; what++) {
            int w = what;
            roads[0].due("told(0, " + w + ") of none", x -> x.told(0, w), BAD);
            roads[1].due("told(3, " + w + ") of three", x -> x.told(3, w), BAD);
        }
    }

    private static void toldWeights() {
        Checks.begin("promise 4: TOLD weight, UNTOLD weight");
        SolesByWhatIsTold x = new SolesByWhatIsTold();
        x.walker(0, 0, 255);
        for (int thing = 0; thing < 8; thing++) {
            x.set(1, thing, 99);
        }
        Checks.due("TOLD weight, none TOLD", x.told(0, 8), 0);
        Checks.due("UNTOLD weight, none TOLD", x.told(0, 9), 792);
        x.set(4, 0, 255);
        Checks.due("TOLD weight, all TOLD", x.told(0, 8), 792);
        Checks.due("UNTOLD weight, all TOLD", x.told(0, 9), 0);
        x.set(4, 0, 0x7f);
        Checks.due("TOLD weight, all but the last", x.told(0, 8), 693);
        Checks.due("UNTOLD weight, all but the last", x.told(0, 9), 99);
        x.set(3, 0, 0);
        Checks.due("TOLD weight, no TIES", x.told(0, 8), 0);
        Checks.due("UNTOLD weight, no TIES", x.told(0, 9), 0);
        x.set(3, 0, 255);
        for (int thing = 0; thing < 8; thing++) {
            x.set(1, thing, 0);
        }
        Checks.due("TOLD weight of what weighs nothing", x.told(0, 8), 0);
        Checks.due("UNTOLD weight of what weighs nothing", x.told(0, 9), 0);
    }

    private static void lasts(String v, int kind, int number, int told, int wanted) {
        SolesByWhatIsTold x = Roads.one(kind, number, told, 40);
        Checks.rule(x, v, "1", "0");
        Checks.due("lasts " + v + ", KIND " + kind + ", NUMBER " + number + ", w " + told, x.told(0, 10), wanted);
    }

    private static void toldLasts() {
        Checks.begin("promise 4: lasts 0 .. 999, else the bound; LASTS");
        String[] values = {"0", "1", "998", "999", "1000", "9999", "- 1", "0 - 9999", "2048*2048*512", "9999*9999*9"};
        int[] bounded = {0, 1, 998, 999, 999, 999, 0, 0, 0, 999};
        for (int i = 0; i < values.length; i++) {
            int v = bounded[i];
            lasts(values[i], 0, 9, 99, v);
            lasts(values[i], 1, 0, 0, v);
            lasts(values[i], 1, 9, 0, v + 9);
            lasts(values[i], 2, 9, 99, v / 2);
            lasts(values[i], 3, 9, 0, 0);
            lasts(values[i], 3, 9, 9, 0);
            lasts(values[i], 3, 9, 10, v + 9);
            lasts(values[i], 3, 0, 11, v);
            lasts(values[i], 4, 9, 0, v / 2);
            lasts(values[i], 4, 9, 99, v / 2 + 99);
            lasts(values[i], 5, 0, 0, 999);
            lasts(values[i], 5, 9, 99, 999);
        }
        lasts("3", 2, 0, 0, 1);
        lasts("3", 4, 0, 1, 2);
        SolesByWhatIsTold x = new SolesByWhatIsTold();
        x.walker(4, 9, 255);
        x.set(4, 0, 255);
        for (int thing = 0; thing < 8; thing++) {
            x.set(1, thing, 99);
        }
        Checks.due("LASTS of a BISHOP, the most of all", x.told(0, 10), 499 + 792);
    }

    private static void pace(String v, int kind, int number, int untold, int wanted) {
        SolesByWhatIsTold x = Roads.one(kind, number, 40, untold);
        Checks.rule(x, "1", v, "0");
        Checks.due("paces " + v + ", KIND " + kind + ", NUMBER " + number + ", u " + untold, x.told(0, 11), wanted);
    }

    private static void toldPaces() {
        Checks.begin("promise 4: paces 0 .. 99, else the bound; PACE 0 .. 99, else the bound");
        String[] values = {"- 1", "0", "1", "48", "49", "50", "95", "96", "97", "98", "99", "100", "9999", "2048*2048*512"};
        int[] bounded = {0, 0, 1, 48, 49, 50, 95, 96, 97, 98, 99, 99, 99, 0};
        for (int i = 0; i < values.length; i++) {
            int v = bounded[i];
            pace(values[i], 0, 9, 0, v);
            pace(values[i], 0, 9, 99, v);
            pace(values[i], 1, 9, 0, Math.min(99, 2 * v));
            pace(values[i], 1, 9, 1, v);
            pace(values[i], 2, 9, 0, Math.min(99, v + 2));
            pace(values[i], 2, 9, 1, Math.min(99, v + 2));
            pace(values[i], 3, 9, 0, Math.min(99, 2 * v + 3));
            pace(values[i], 3, 9, 1, Math.min(99, v + 3));
            pace(values[i], 4, 9, 0, 1);
            pace(values[i], 4, 9, 99, 1);
            pace(values[i], 5, 0, 0, 0);
            pace(values[i], 5, 9, 99, 9);
        }
    }

    private static void stopped(String yes, int untold, int... kinds) {
        for (int kind = 0; kind < 6; kind++) {
            SolesByWhatIsTold x = Roads.one(kind, 9, 99, untold);
            Checks.rule(x, "1", "1", yes);
            Checks.due("stops " + yes + ", KIND " + kind + ", u " + untold, x.told(0, 12), kinds[kind]);
        }
    }

    private static void toldStopped() {
        Checks.begin("promise 4: STOPPED");
        String[] yes = {"1", "- 1", "9999", "2048*2048*512", "2"};
        for (String v : yes) {
            stopped(v, 0, 1, 0, 1, 0, 1, 0);
            stopped(v, 1, 1, 0, 1, 0, 1, 1);
            stopped(v, 5, 1, 0, 1, 0, 1, 1);
            stopped(v, 6, 1, 1, 1, 0, 1, 1);
            stopped(v, 99, 1, 1, 1, 0, 1, 1);
        }
        // 2^32 wraps to 0
        String[] no = {"0", "1 - 1", "2048*2048*1024"};
        for (String v : no) {
            stopped(v, 0, 0, 0, 0, 0, 0, 0);
            stopped(v, 1, 0, 0, 0, 0, 0, 1);
            stopped(v, 30, 0, 0, 0, 0, 0, 1);
            stopped(v, 31, 0, 0, 1, 0, 1, 1);
            stopped(v, 99, 0, 0, 1, 0, 1, 1);
        }
    }

    private static void toldSocks() {
        Checks.begin("promise 4: in SOCKS, WORN LASTS or more");
        SolesByWhatIsTold x = Roads.one(0, 0, 10, 0);
        Checks.rule(x, "20", "1", "0");
        int[][] due = {{0, 0}, {19, 0}, {20, 1}, {21, 1}, {9999, 1}};
        for (int[] row : due) {
            x.set(6, 0, row[0]);
            Checks.due("WORN " + row[0] + ", LASTS 20", x.told(0, 13), row[1]);
        }
        x.set(6, 0, 0);
        Checks.rule(x, "0", "1", "0");
        Checks.due("WORN 0, LASTS 0", x.told(0, 13), 1);
        x.walker(3, 9, 0);
        Checks.due("a DESERTER who told nothing", x.told(1, 13), 1);
        x.walker(5, 0, 0);
        x.set(6, 2, 998);
        Checks.due("a DOG, WORN 998", x.told(2, 13), 0);
        x.set(6, 2, 999);
        Checks.due("a DOG, WORN 999", x.told(2, 13), 1);
    }

    private static void toldNames() {
        Checks.begin("promise 4: what NAMES tell, at their bounds");
        int[] most = {792, 0, 999, 9, 999, 9999};
        String[] names = {"told", "untold", "step", "number", "day", "worn"};
        for (int i = 0; i < names.length; i++) {
            SolesByWhatIsTold x = new SolesByWhatIsTold();
            x.walker(0, 0, 0);
            Checks.rule(x, "999", "1", names[i] + " = 0");
            Checks.due(names[i] + " is 0 at first", x.told(0, 12), 1);
            for (int thing = 0; thing < 8; thing++) {
                x.set(1, thing, 99);
            }
            for (int what = 0; what < 7; what++) {
                x.set(what, 0, MOSTS[what]);
            }
            Checks.rule(x, "999", "1", names[i] + " = " + most[i]);
            Checks.due(names[i] + " is " + most[i], x.told(0, 12), 1);
            if (i < 2) {
                x.set(4, 0, 0);
                Checks.rule(x, "999", "1", names[i] + " = " + (792 - most[i]));
                Checks.due(names[i] + " is " + (792 - most[i]), x.told(0, 12), 1);
            }
        }
    }
}
