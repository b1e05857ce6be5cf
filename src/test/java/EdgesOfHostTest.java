/** Promises 24 to 28, the sentences that name a bound: SHEETS of 0 and 40, lowest bits, places, the order of refusals. */
public final class EdgesOfHostTest {
    private static final int BAD = SolesByWhatIsTold.BAD, NONE = SolesByWhatIsTold.NONE;
    private static final int NOTHING = Refusals.NOTHING, OUTSIDE = Refusals.OUTSIDE;
    private static final int UNLIKE = Refusals.UNLIKE, BELOW = Refusals.BELOW;
    private static final int LEAST = Refusals.LEAST, MOST = Refusals.MOST;

    public static void main(String[] args) {
        sheetOfSizes();
        sheetAnew();
        sheetMissing();
        sheetRefused();
        cellOfPlaces();
        cellOfBits();
        cellRefused();
        copyOfPlaces();
        copyOntoItself();
        copyOfSorts();
        copyRefused();
        walkersOfPlaces();
        walkersLeftOut();
        walkersAheadOfWhatIsOutside();
        walkersRefused();
        takenByKinds();
        takenRefused();
        Checks.end();
    }

    /** An object whose number 0 is a DOG that never goes on: it reads items by where it stands. */
    private static SolesByWhatIsTold reader() {
        SolesByWhatIsTold x = new SolesByWhatIsTold();
        x.walker(5, 0, 0);
        return x;
    }

    /** Item i of a SHEET is a STEP, read by a SHEET of one number. */
    private static boolean isItem(SolesByWhatIsTold x, int sheet, int i, int sort, int step) {
        x.sheet(3, sort, 1);
        x.copy(sheet, i, 3, 0, 1);
        x.set(5, 0, step);
        return x.tells(3, 0, 0) == NONE;
    }

    private static void items(SolesByWhatIsTold x, int sheet, int sort, int... items) {
        for (int i = 0; i < items.length; i++) {
            Checks.yes("item " + i + " is " + items[i], isItem(x, sheet, i, sort, items[i]));
        }
        Checks.due("no item more", x.cell(sheet, items.length, 0), OUTSIDE);
    }

    // ---- promise 24

    private static void sheetOfSizes() {
        Checks.begin("promise 24: a row of n, 0 .. 40, of a sort, all 0");
        for (int sort = 0; sort < 3; sort++) {
            for (int n = 0; n <= 40; n++) {
                SolesByWhatIsTold x = reader();
                for (int sheet = 0; sheet < 4; sheet++) {
                    Checks.due("sheet(sheet, sort, " + n + ")", x.sheet(sheet, sort, n), 1);
                    Checks.due("item n is outside", x.cell(sheet, n, 1), OUTSIDE);
                    Checks.due("the last item", n == 0 ? 1 : x.cell(sheet, n - 1, 0), 1);
                    Checks.due("all are 0", x.tells(sheet, 0, 0), NONE);
                    for (int other = 0; other < 3; other++) {
                        Checks.due("of the sort", x.walkers(sheet, other, 0, 0), other == sort ? 0 : UNLIKE);
                    }
                }
            }
        }
    }

    private static void sheetAnew() {
        Checks.begin("promise 24: a SHEET becomes a row, whatever it was");
        for (int was = 0; was < 3; was++) {
            for (int sort = 0; sort < 3; sort++) {
                SolesByWhatIsTold x = reader();
                x.sheet(1, was, 40);
                x.sheet(2, was, 40);
                for (int i = 0; i < 40; i++) {
                    x.cell(1, i, 7);
                }
                x.cell(2, 39, 7);
                Checks.due("sheet(1, sort, 3)", x.sheet(1, sort, 3), 1);
                Checks.due("all are 0", x.tells(1, 0, 0), NONE);
                Checks.due("item 3 is outside", x.cell(1, 3, 7), OUTSIDE);
                Checks.due("sheet(1, sort, 40)", x.sheet(1, sort, 40), 1);
                Checks.due("all are 0, also what was behind", x.tells(1, 0, 0), NONE);
                Checks.due("another SHEET is as it was", x.tells(2, 0, 0), 39);
                Checks.due("of its sort", x.walkers(2, was, 0, 0), 0);
            }
        }
    }

    private static void sheetMissing() {
        Checks.begin("promise 24: missing, sort -1: n does not matter");
        int[] sizes = {LEAST, -1, 0, 1, 40, 41, MOST};
        for (int n : sizes) {
            SolesByWhatIsTold x = reader();
            Checks.due("sheet(0, -1, " + n + ")", x.sheet(0, -1, n), 1);
            Checks.due("cell(0, 0, 0)", x.cell(0, 0, 0), NOTHING);
            x.sheet(0, 2, 5);
            x.cell(0, 0, 7);
            Checks.due("sheet(0, -1, " + n + ") of a row", x.sheet(0, -1, n), 1);
            Checks.due("cell(0, 0, 0)", x.cell(0, 0, 0), NOTHING);
            Checks.due("tells(0, 0, 0)", x.tells(0, 0, 0), NOTHING);
            Checks.due("copy(0, 0, 0, 0, 0)", x.copy(0, 0, 0, 0, 0), NOTHING);
            Checks.due("walkers(0, 2, 0, 0)", x.walkers(0, 2, 0, 0), NOTHING);
            x.sheet(0, 2, 1);
            Checks.due("all are 0 then", x.tells(0, 0, 0), NONE);
        }
    }

    private static void sheetRefused() {
        Checks.begin("promise 24: BAD: no such SHEET, sort; n above 40; -14");
        Refusals some = new Refusals(Roads::some);
        int[] sheets = {LEAST, -1, 4, 256, MOST};
        int[] sizes = {LEAST, -1, 0, 40, 41, MOST};
        for (int sheet : sheets) {
            for (int n : sizes) {
                some.due("sheet(" + sheet + ", 0, " + n + ")", x -> x.sheet(sheet, 0, n), BAD);
                some.due("sheet(" + sheet + ", -1, " + n + ")", x -> x.sheet(sheet, -1, n), BAD);
            }
        }
        int[] sorts = {LEAST, -2, 3, 256, MOST};
        for (int sort : sorts) {
            for (int n : sizes) {
                some.due("sheet(0, " + sort + ", " + n + ")", x -> x.sheet(0, sort, n), BAD);
            }
        }
        int[] many = {41, 42, 256, MOST};
        int[] few = {LEAST, -256, -40, -1};
        for (int sort = 0; sort < 3; sort++) {
            for (int sheet = 0; sheet < 4; sheet++) {
                int k = sort;
                int s = sheet;
                for (int n : many) {
                    some.due("sheet(" + s + ", " + k + ", " + n + ")", x -> x.sheet(s, k, n), BAD);
                }
                for (int n : few) {
                    some.due("sheet(" + s + ", " + k + ", " + n + ")", x -> x.sheet(s, k, n), BELOW);
                }
            }
        }
    }

    // ---- promise 25

    private static void cellOfPlaces() {
        Checks.begin("promise 25: item i becomes v");
        for (int sort = 0; sort < 3; sort++) {
            int[] sizes = {1, 2, 40};
            for (int n : sizes) {
                SolesByWhatIsTold x = reader();
                x.sheet(0, sort, n);
                x.sheet(1, sort, n);
                for (int i = 0; i < n; i++) {
                    Checks.due("cell(0, " + i + ", v)", x.cell(0, i, i + 1), 1);
                }
                for (int i = 0; i < n; i++) {
                    Checks.yes("item " + i + " is " + (i + 1), isItem(x, 0, i, sort, i + 1));
                    Checks.due("cell(0, " + i + ", v) again", x.cell(0, i, i + 50), 1);
                    Checks.yes("item " + i + " is " + (i + 50), isItem(x, 0, i, sort, i + 50));
                }
                x.set(5, 0, 0);
                Checks.due("another SHEET is as it was", x.tells(1, 0, 0), NONE);
            }
        }
    }

    private static void bits(int sort, int v, int item) {
        SolesByWhatIsTold x = reader();
        x.sheet(0, sort, 1);
        Checks.due("cell(0, 0, " + v + ")", x.cell(0, 0, v), 1);
        for (int step : new int[] {0, 1, 127, 128, 200, 255, 256, 512, 767, 999}) {
            Checks.due(v + " of sort " + sort + " is " + step, isItem(x, 0, 0, sort, step) ? 1 : 0, step == item ? 1 : 0);
        }
    }

    private static void cellOfBits() {
        Checks.begin("promise 25: of bytes, shorts its lowest 8, 16 bits");
        int[] whole = {0, 1, 127};
        int[] more = {65536, -65536, 1 << 30, LEAST};
        for (int v : whole) {
            for (int sort = 0; sort < 3; sort++) {
                bits(sort, v, v);
            }
            for (int wrap : more) {
                bits(0, v + wrap, v);
                bits(1, v + wrap, v);
                bits(2, v + wrap, -1);
            }
            bits(0, v + 256, v);
            bits(0, v - 256, v);
            bits(1, v - 256, -1);
            bits(2, v - 256, -1);
        }
        bits(0, 256, 0);
        bits(1, 256, 256);
        bits(2, 256, 256);
        bits(0, 768 - 1, -1);
        bits(1, 768 - 1, 767);
        bits(2, 768 - 1, 767);
        // bytes and shorts are those of Java: from 128 and 32768 on they are below 0
        int[] below = {128, 200, 255, -1, -128};
        for (int v : below) {
            bits(0, v, -1);
            bits(1, v, v);
            bits(2, v, v);
        }
        bits(0, 256 + 127, 127);
        bits(0, MOST, -1);
        bits(0, -129, 127);
        bits(1, 999, 999);
        bits(1, 65536 + 999, 999);
        bits(1, -65536 + 999, 999);
        bits(1, 32768, -1);
        bits(1, 65535, -1);
        bits(1, MOST, -1);
        bits(2, 999, 999);
        bits(2, 65536 + 999, -1);
        bits(2, MOST, -1);
        // shorts as WALKERS: of 65536 * 2 + 5 the lowest 16 bits are a DOG; of ints it is none
        SolesByWhatIsTold x = reader();
        Checks.row(x, 0, 1, 65536 * 2 + 5, -65536 + 9, 65536 + 255);
        Checks.due("walkers(0, 1, 0, 1)", x.walkers(0, 1, 0, 1), 1);
        Checks.due("KIND", x.told(1, 7), 5);
        Checks.due("NUMBER", x.told(1, 2), 9);
        Checks.due("TIES", x.told(1, 3), 255);
        Checks.row(x, 0, 2, 65536 * 2 + 5, 9, 255);
        Checks.due("walkers(0, 2, 0, 1)", x.walkers(0, 2, 0, 1), 0);
    }

    private static void cellRefused() {
        Checks.begin("promise 25: BAD: no such SHEET; -11; -12");
        Refusals some = new Refusals(Roads::some);
        int[] sheets = {LEAST, -1, 4, 256, MOST};
        int[] places = {LEAST, -1, 0, 5, MOST};
        for (int i : places) {
            for (int sheet : sheets) {
                some.due("cell(" + sheet + ", " + i + ", 1)", x -> x.cell(sheet, i, 1), BAD);
            }
            some.due("cell(3, " + i + ", 1), missing", x -> x.cell(3, i, 1), NOTHING);
        }
        int[] outside = {LEAST, -1, 5, 6, 39, 40, 256, MOST};
        for (int i : outside) {
            for (int sheet = 0; sheet < 3; sheet++) {
                int s = sheet;
                some.due("cell(" + s + ", " + i + ", 1)", x -> x.cell(s, i, 1), OUTSIDE);
            }
        }
        Refusals full = new Refusals(Roads::full);
        full.due("cell(0, 40, 1) of 40", x -> x.cell(0, 40, 1), OUTSIDE);
        full.due("cell(0, -1, 1) of 40", x -> x.cell(0, -1, 1), OUTSIDE);
    }

    // ---- promise 26

    private static void copyOfPlaces() {
        Checks.begin("promise 26: n numbers from item i on come to item j on");
        // all that fit a row of 4 and one of 3, and all next to these
        for (int i = -1; i <= 5; i++) {
            for (int j = -1; j <= 4; j++) {
                for (int n = -1; n <= 5; n++) {
                    SolesByWhatIsTold x = reader();
                    Checks.row(x, 0, 2, 11, 12, 13, 14);
                    Checks.row(x, 1, 2, 1, 2, 3);
                    boolean fits = n >= 0 && i >= 0 && j >= 0 && i + n <= 4 && j + n <= 3;
                    String call = "copy(0, " + i + ", 1, " + j + ", " + n + ")";
                    Checks.due(call, x.copy(0, i, 1, j, n), fits ? n : OUTSIDE);
                    int[] wanted = {1, 2, 3};
                    for (int k = 0; fits && k < n; k++) {
                        wanted[j + k] = 11 + i + k;
                    }
                    items(x, 1, 2, wanted);
                    items(x, 0, 2, 11, 12, 13, 14);
                }
            }
        }
        SolesByWhatIsTold x = reader();
        x.sheet(0, 0, 40);
        x.sheet(1, 0, 40);
        x.cell(0, 39, 5);
        Checks.due("copy(0, 0, 1, 0, 40)", x.copy(0, 0, 1, 0, 40), 40);
        Checks.yes("the last item came", isItem(x, 1, 39, 0, 5));
        Checks.due("copy(0, 40, 1, 40, 0)", x.copy(0, 40, 1, 40, 0), 0);
        Checks.due("copy(0, 0, 1, 0, 41)", x.copy(0, 0, 1, 0, 41), OUTSIDE);
        Checks.due("copy(0, 1, 1, 0, 40)", x.copy(0, 1, 1, 0, 40), OUTSIDE);
        Checks.due("copy(0, 0, 1, 1, 40)", x.copy(0, 0, 1, 1, 40), OUTSIDE);
        Checks.due("copy(0, 41, 1, 0, 0)", x.copy(0, 41, 1, 0, 0), OUTSIDE);
        Checks.due("copy(0, 0, 1, 41, 0)", x.copy(0, 0, 1, 41, 0), OUTSIDE);
    }

    private static void copyOntoItself() {
        Checks.begin("promise 26: as they were, also onto the same SHEET");
        for (int i = 0; i <= 5; i++) {
            for (int j = 0; j <= 5; j++) {
                for (int n = 0; n <= 5 - Math.max(i, j); n++) {
                    SolesByWhatIsTold x = reader();
                    Checks.row(x, 0, 1, 1, 2, 3, 4, 5);
                    Checks.due("copy(0, " + i + ", 0, " + j + ", " + n + ")", x.copy(0, i, 0, j, n), n);
                    int[] wanted = {1, 2, 3, 4, 5};
                    for (int k = 0; k < n; k++) {
                        wanted[j + k] = 1 + i + k;
                    }
                    items(x, 0, 1, wanted);
                }
            }
        }
    }

    private static void copyOfSorts() {
        Checks.begin("promise 26: -13, they are of unlike sorts");
        for (int sort = 0; sort < 3; sort++) {
            for (int other = 0; other < 3; other++) {
                for (int n = -1; n < 3; n++) {
                    SolesByWhatIsTold x = reader();
                    x.sheet(0, sort, 1);
                    x.sheet(1, other, 1);
                    int alike = n == -1 || n == 2 ? OUTSIDE : n;
                    Checks.due("copy(0, 0, 1, 0, " + n + ")", x.copy(0, 0, 1, 0, n), sort == other ? alike : UNLIKE);
                }
            }
        }
    }

    private static void copyRefused() {
        Checks.begin("promise 26: BAD: no such SHEET; -11; -13; -12, also with n below 0");
        Refusals some = new Refusals(Roads::some);
        int[] sheets = {LEAST, -1, 4, 256, MOST};
        for (int sheet : sheets) {
            // ahead of all others: of a missing one, of another sort, outside
            for (int with = 0; with < 4; with++) {
                int w = with;
                some.due("copy(" + sheet + ", 9, " + w + ", 9, -1)", x -> x.copy(sheet, 9, w, 9, -1), BAD);
                some.due("copy(" + w + ", 9, " + sheet + ", 9, -1)", x -> x.copy(w, 9, sheet, 9, -1), BAD);
            }
            some.due("copy(" + sheet + ", 0, " + sheet + ", 0, 0)", x -> x.copy(sheet, 0, sheet, 0, 0), BAD);
        }
        for (int with = 0; with < 4; with++) {
            int w = with;
            int[] many = {LEAST, -1, 0, 1, MOST};
            for (int n : many) {
                some.due("copy(3, 0, " + w + ", 0, " + n + "), missing", x -> x.copy(3, 0, w, 0, n), NOTHING);
                some.due("copy(" + w + ", 0, 3, 0, " + n + "), missing", x -> x.copy(w, 0, 3, 0, n), NOTHING);
                if (w < 3) {
                    int u = (w + 1) % 3;
                    some.due("copy(" + w + ", 9, " + u + ", 9, " + n + "), unlike", x -> x.copy(w, 9, u, 9, n), UNLIKE);
                    some.due("copy(" + w + ", 0, " + u + ", 0, " + n + "), unlike", x -> x.copy(w, 0, u, 0, n), UNLIKE);
                }
            }
        }
        Refusals two = new Refusals(() -> {
            SolesByWhatIsTold x = Roads.some();
            x.film(3, 1, 5);
            return x;
        });
        // what may wrap: i + n, j + n
        int[][] outside = {{0, 0, -1}, {0, 0, LEAST}, {0, 0, MOST}, {1, 1, MOST}, {MOST, MOST, 1}, {MOST, MOST, MOST},
            {MOST, 0, 1}, {0, MOST, 1}, {LEAST, 0, 1}, {0, LEAST, 1}, {LEAST, LEAST, LEAST}, {LEAST, LEAST, MOST}, {-1, 0, 1},
            {0, -1, 1}, {-1, -1, 1}, {-1, 0, 0}, {0, -1, 0}, {6, 0, 0}, {0, 6, 0}, {6, 0, -1}, {5, 0, 1}, {0, 5, 1}, {1, 0, 5},
            {0, 1, 5}, {0, 0, 6}, {5, 5, -5}, {MOST, MOST, 0}, {LEAST, LEAST, 0}, {1 << 30, 1 << 30, 1 << 30}};
        for (int[] row : outside) {
            two.due("copy(0, " + row[0] + ", 3, " + row[1] + ", " + row[2] + ")",
                x -> x.copy(0, row[0], 3, row[1], row[2]), OUTSIDE);
        }
    }

    // ---- promise 27

    private static void walkersOfPlaces() {
        Checks.begin("promise 27: from one on, three by three, n of them, 0 .. 6: how many came");
        for (int sort = 0; sort < 3; sort++) {
            for (int n = 0; n <= 6; n++) {
                for (int from = 0; from < 3; from++) {
                    SolesByWhatIsTold x = new SolesByWhatIsTold();
                    x.sheet(0, sort, from + 3 * n);
                    for (int i = 0; i < n; i++) {
                        x.cell(0, from + 3 * i, i);
                        x.cell(0, from + 3 * i + 1, 9 - i);
                        x.cell(0, from + 3 * i + 2, 1 << i);
                    }
                    Checks.due("walkers(0, sort, " + from + ", " + n + ")", x.walkers(0, sort, from, n), n);
                    Checks.due("count(0)", x.count(0), n);
                    for (int i = 0; i < n; i++) {
                        Checks.due("KIND", x.told(i, 7), i);
                        Checks.due("NUMBER", x.told(i, 2), 9 - i);
                        Checks.due("TIES", x.told(i, 3), 1 << i);
                        Checks.due("TOLD", x.told(i, 4), 0);
                    }
                }
            }
        }
        // of none no place is asked for
        SolesByWhatIsTold x = new SolesByWhatIsTold();
        x.sheet(0, 0, 0);
        int[] places = {LEAST, -1, 0, 1, MOST};
        for (int from : places) {
            Checks.due("walkers(0, 0, " + from + ", 0)", x.walkers(0, 0, from, 0), 0);
        }
        Checks.due("walkers(0, 0, 0, 1)", x.walkers(0, 0, 0, 1), OUTSIDE);
    }

    private static void walkersLeftOut() {
        Checks.begin("promise 27: as of walker(); others are left out");
        int[][] bad = {{6, 0, 0}, {-1, 0, 0}, {0, 10, 0}, {0, -1, 0}, {0, 0, 256}, {0, 0, -1}, {LEAST, 0, 0}, {0, MOST, 0}};
        for (int[] row : bad) {
            SolesByWhatIsTold x = new SolesByWhatIsTold();
            Checks.row(x, 0, 2, 5, 9, 255, row[0], row[1], row[2], 1, 2, 3);
            Checks.due("walkers(0, 2, 0, 3)", x.walkers(0, 2, 0, 3), 2);
            Checks.due("count(0)", x.count(0), 2);
            Checks.due("the first one", x.told(0, 7), 5);
            Checks.due("the third one", x.told(1, 3), 3);
            Checks.due("walkers(0, 2, 3, 1)", x.walkers(0, 2, 3, 1), 0);
            Checks.due("walkers(0, 2, 3, 2)", x.walkers(0, 2, 3, 2), 1);
            Checks.due("count(0)", x.count(0), 3);
        }
        // those for whom there is no room are left out, too
        for (int room = 0; room <= 6; room++) {
            SolesByWhatIsTold x = new SolesByWhatIsTold();
            for (int i = room; i < 6; i++) {
                x.walker(5, 9, 9);
            }
            x.sheet(0, 0, 18);
            x.cell(0, 0, 6);
            Checks.due("walkers(0, 0, 0, 6), room for " + room, x.walkers(0, 0, 0, 6), Math.min(room, 5));
            Checks.due("count(0)", x.count(0), 6 - room + Math.min(room, 5));
            Checks.due("walkers(0, 0, 3, 6), outside", x.walkers(0, 0, 3, 6), OUTSIDE);
            Checks.due("count(0)", x.count(0), 6);
        }
    }

    private static void walkersAheadOfWhatIsOutside() {
        Checks.begin("promise 27: -12: what stood ahead came");
        for (int size = 0; size <= 18; size++) {
            for (int from = 0; from < 3; from++) {
                SolesByWhatIsTold x = new SolesByWhatIsTold();
                x.sheet(0, 1, size);
                int ahead = Math.max(0, size - from) / 3;
                Checks.due("walkers(0, 1, " + from + ", 6) of " + size, x.walkers(0, 1, from, 6), ahead == 6 ? 6 : OUTSIDE);
                Checks.due("count(0)", x.count(0), Math.min(6, ahead));
            }
        }
        SolesByWhatIsTold x = new SolesByWhatIsTold();
        // one that came, one that is left out, two numbers of a third
        Checks.row(x, 0, 2, 5, 9, 255, 6, 0, 0, 1, 1);
        Checks.due("walkers(0, 2, 0, 3)", x.walkers(0, 2, 0, 3), OUTSIDE);
        Checks.due("count(0)", x.count(0), 1);
        Checks.due("KIND", x.told(0, 7), 5);
    }

    private static void walkersRefused() {
        Checks.begin("promise 27: BAD: no such SHEET, sort, n; -13; -11; -12");
        Refusals some = new Refusals(Roads::some);
        int[] sheets = {LEAST, -1, 4, 256, MOST};
        for (int sheet : sheets) {
            some.due("walkers(" + sheet + ", 1, 0, 1)", x -> x.walkers(sheet, 1, 0, 1), BAD);
            some.due("walkers(" + sheet + ", 1, 0, 0)", x -> x.walkers(sheet, 1, 0, 0), BAD);
        }
        int[] sorts = {LEAST, -1, 3, 256, MOST};
        int[] many = {LEAST, -1, 7, 256, MOST};
        // of shorts, bytes, ints and a missing one
        for (int sheet = 0; sheet < 4; sheet++) {
            int s = sheet;
            for (int sort : sorts) {
                some.due("walkers(" + s + ", " + sort + ", 0, 1)", x -> x.walkers(s, sort, 0, 1), BAD);
                some.due("walkers(" + s + ", " + sort + ", 9, 0)", x -> x.walkers(s, sort, 9, 0), BAD);
            }
            for (int sort = 0; sort < 3; sort++) {
                int k = sort;
                for (int n : many) {
                    some.due("walkers(" + s + ", " + k + ", 0, " + n + ")", x -> x.walkers(s, k, 0, n), BAD);
                }
                int[] of = {1, 0, 2};
                int[] places = {LEAST, -1, 3, 5, 40, MOST};
                for (int from : places) {
                    int wanted = s == 3 ? NOTHING : of[s] == k ? OUTSIDE : UNLIKE;
                    some.due("walkers(" + s + ", " + k + ", " + from + ", 1)", x -> x.walkers(s, k, from, 1), wanted);
                    some.due("walkers(" + s + ", " + k + ", " + from + ", 6)", x -> x.walkers(s, k, from, 6), wanted);
                }
                some.due("walkers(" + s + ", " + k + ", 0, 0)", x -> x.walkers(s, k, 0, 0),
                    s == 3 ? NOTHING : of[s] == k ? 0 : UNLIKE);
            }
        }
    }

    // ---- promise 28

    private static void takenByKinds() {
        Checks.begin("promise 28: of KIND k, or one under that one, also by others between: the NUMBER; -13");
        int[] under = {NONE, 0, 0, 1, 2, 0};
        SolesByWhatIsTold x = new SolesByWhatIsTold();
        for (int kind = 0; kind < 6; kind++) {
            x.walker(kind, 0, 0);
            for (int number = 0; number < 10; number += 9) {
                x.set(2, kind, number);
                for (int k = 0; k < 6; k++) {
                    boolean is = false;
                    for (int above = kind; above != NONE; above = under[above]) {
                        is |= above == k;
                    }
                    Checks.due("taken(" + kind + ", " + k + ")", x.taken(kind, k), is ? number : UNLIKE);
                }
            }
        }
        Checks.due("taken(3, 1): a DESERTER for a SAILOR", x.taken(3, 1), 9);
        Checks.due("taken(3, 0): by a SAILOR between", x.taken(3, 0), 9);
        Checks.due("taken(1, 3): a SAILOR for a DESERTER", x.taken(1, 3), UNLIKE);
        Checks.due("taken(4, 0): by a BRIDE between", x.taken(4, 0), 9);
        Checks.due("taken(4, 1): a BISHOP for a SAILOR", x.taken(4, 1), UNLIKE);
        Checks.due("taken(0, 5): a WALKER for a DOG", x.taken(0, 5), UNLIKE);
    }

    private static void takenRefused() {
        Checks.begin("promise 28: BAD: k; -11: no such WALKER; -13");
        Refusals some = new Refusals(Roads::some);
        Refusals full = new Refusals(Roads::full);
        Refusals empty = new Refusals(Roads::empty);
        int[] kinds = {LEAST, -1, 6, 256, MOST};
        int[] ones = {LEAST, -1, 3, 6, 256, MOST};
        for (int k : kinds) {
            some.due("taken(0, " + k + ")", x -> x.taken(0, k), BAD);
            empty.due("taken(0, " + k + ") of none", x -> x.taken(0, k), BAD);
            for (int one : ones) {
                some.due("taken(" + one + ", " + k + ")", x -> x.taken(one, k), BAD);
            }
        }
        for (int k = 0; k < 6; k++) {
            int kind = k;
            empty.due("taken(0, " + k + ") of none", x -> x.taken(0, kind), NOTHING);
            full.due("taken(6, " + k + ") of six", x -> x.taken(6, kind), NOTHING);
            for (int one : ones) {
                some.due("taken(" + one + ", " + k + ")", x -> x.taken(one, kind), NOTHING);
            }
        }
        some.due("taken(0, 5)", x -> x.taken(0, 5), UNLIKE);
        some.due("taken(1, 1)", x -> x.taken(1, 1), UNLIKE);
        some.due("taken(2, 5)", x -> x.taken(2, 5), UNLIKE);
    }
}
