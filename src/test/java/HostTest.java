/** Promises 24 to 28: sheet, cell, copy, walkers, taken. */
public final class HostTest {
    private static final int BAD = SolesByWhatIsTold.BAD, NONE = SolesByWhatIsTold.NONE;
    private static final int NOTHING = -11, OUTSIDE = -12, UNLIKE = -13, BELOW = -14;

    public static void main(String[] args) {
        promise24();
        promise25();
        promise26();
        promise26Refusals();
        promise27();
        promise27Refusals();
        promise28();
        Checks.end();
    }

    private static void promise24() {
        Checks.begin("promise 24");
        SolesByWhatIsTold x = new SolesByWhatIsTold();
        Checks.due("sheet(0, 0, 40)", x.sheet(0, 0, 40), 1);
        Checks.due("cell(0, 39, 1)", x.cell(0, 39, 1), 1);
        Checks.due("cell(0, 40, 1)", x.cell(0, 40, 1), OUTSIDE);
        Checks.due("sheet(0, 0, 41)", x.sheet(0, 0, 41), BAD);
        Checks.due("sheet(0, 0, -1)", x.sheet(0, 0, -1), BELOW);
        Checks.due("sheet(0, 0, least)", x.sheet(0, 0, Integer.MIN_VALUE), BELOW);
        Checks.due("cell(0, 39, 1) behind refusals", x.cell(0, 39, 1), 1);
        Checks.due("sheet(0, 3, 1)", x.sheet(0, 3, 1), BAD);
        Checks.due("sheet(0, -2, 1)", x.sheet(0, -2, 1), BAD);
        Checks.due("sheet(0, 3, -1): BAD ahead of -14", x.sheet(0, 3, -1), BAD);
        Checks.due("sheet(4, 0, 1)", x.sheet(4, 0, 1), BAD);
        Checks.due("sheet(4, 0, -1): BAD ahead of -14", x.sheet(4, 0, -1), BAD);
        Checks.due("sheet(-1, 0, 1)", x.sheet(-1, 0, 1), BAD);
        Checks.due("sheet(-1, -1, 1)", x.sheet(-1, -1, 1), BAD);
        Checks.due("sheet(0, 1, 0)", x.sheet(0, 1, 0), 1);
        Checks.due("cell(0, 0, 1)", x.cell(0, 0, 1), OUTSIDE);
        Checks.due("sheet(0, -1, 41)", x.sheet(0, -1, 41), 1);
        Checks.due("cell(0, 0, 1)", x.cell(0, 0, 1), NOTHING);
        Checks.due("sheet(0, -1, -1)", x.sheet(0, -1, -1), 1);
        // a row made anew is all 0
        x.walker(0, 0, 0);
        x.set(6, 0, 5);
        Checks.row(x, 3, 2, 8, 9);
        Checks.due("tells(3, 0, 0)", x.tells(3, 0, 0), 0);
        x.sheet(3, 2, 2);
        Checks.due("tells(3, 0, 0)", x.tells(3, 0, 0), NONE);
    }

    private static void promise25() {
        Checks.begin("promise 25");
        SolesByWhatIsTold x = new SolesByWhatIsTold();
        Checks.due("cell(-1, 0, 0)", x.cell(-1, 0, 0), BAD);
        Checks.due("cell(4, 0, 0)", x.cell(4, 0, 0), BAD);
        Checks.due("cell(0, 0, 0)", x.cell(0, 0, 0), NOTHING);
        Checks.due("cell(0, -1, 0): -11 ahead of -12", x.cell(0, -1, 0), NOTHING);
        x.sheet(0, 0, 3);
        x.sheet(1, 1, 3);
        x.sheet(2, 2, 3);
        for (int sheet = 0; sheet < 3; sheet++) {
            Checks.due("cell(sheet, -1, 0)", x.cell(sheet, -1, 0), OUTSIDE);
            Checks.due("cell(sheet, 3, 0)", x.cell(sheet, 3, 0), OUTSIDE);
            Checks.due("cell(sheet, far, 0)", x.cell(sheet, Integer.MAX_VALUE, 0), OUTSIDE);
            for (int i = 0; i < 3; i++) {
                Checks.due("cell(sheet, i, v)", x.cell(sheet, i, 1 + 256 * (i + 1) + 65536), 1);
            }
        }
        // KINDS, NUMBERS and TIES of what the SHEETS keep: 1, 1, 1 of bytes
        Checks.due("walkers(0, 0, 0, 1)", x.walkers(0, 0, 0, 1), 1);
        Checks.due("KIND", x.told(0, 7), 1);
        Checks.due("TIES", x.told(0, 3), 1);
        // 257, 513, 769 of shorts
        Checks.due("walkers(1, 1, 0, 1)", x.walkers(1, 1, 0, 1), 0);
        x.cell(1, 0, 65536 * 3 + 2);
        x.cell(1, 1, -65536 + 4);
        x.cell(1, 2, 65536 + 255);
        Checks.due("walkers(1, 1, 0, 1)", x.walkers(1, 1, 0, 1), 1);
        Checks.due("KIND", x.told(1, 7), 2);
        Checks.due("NUMBER", x.told(1, 2), 4);
        Checks.due("TIES", x.told(1, 3), 255);
        // ints are kept whole
        x.cell(2, 0, 65536);
        x.cell(2, 1, 0);
        x.cell(2, 2, 0);
        Checks.due("walkers(2, 2, 0, 1)", x.walkers(2, 2, 0, 1), 0);
        x.cell(2, 0, 0);
        Checks.due("walkers(2, 2, 0, 1)", x.walkers(2, 2, 0, 1), 1);
        // bytes above 127 are below 0, as in Java
        x.cell(0, 2, 128);
        Checks.due("walkers(0, 0, 0, 1)", x.walkers(0, 0, 0, 1), 0);
        x.cell(0, 2, -129);
        Checks.due("walkers(0, 0, 0, 1)", x.walkers(0, 0, 0, 1), 1);
        Checks.due("TIES", x.told(3, 3), 127);
    }

    private static void promise26() {
        Checks.begin("promise 26");
        SolesByWhatIsTold x = new SolesByWhatIsTold();
        x.walker(5, 0, 0);
        Checks.row(x, 0, 2, 1, 2, 3, 4, 5);
        Checks.row(x, 1, 2, 0, 0, 0, 0);
        Checks.due("copy(0, 1, 1, 2, 2)", x.copy(0, 1, 1, 2, 2), 2);
        dueRow(x, 1, 0, 0, 2, 3);
        dueRow(x, 0, 1, 2, 3, 4, 5);
        Checks.due("copy(0, 0, 1, 0, 4)", x.copy(0, 0, 1, 0, 4), 4);
        dueRow(x, 1, 1, 2, 3, 4);
        // onto itself they come as they were
        Checks.due("copy(0, 0, 0, 1, 4)", x.copy(0, 0, 0, 1, 4), 4);
        dueRow(x, 0, 1, 1, 2, 3, 4);
        Checks.due("copy(0, 1, 0, 0, 4)", x.copy(0, 1, 0, 0, 4), 4);
        dueRow(x, 0, 1, 2, 3, 4, 4);
        Checks.due("copy(0, 5, 1, 4, 0)", x.copy(0, 5, 1, 4, 0), 0);
        dueRow(x, 1, 1, 2, 3, 4);
        x.sheet(2, 2, 0);
        Checks.due("copy(2, 0, 2, 0, 0)", x.copy(2, 0, 2, 0, 0), 0);
    }

    /** The items of ints, read one by one, by a DOG who stands where they tell. */
    private static void dueRow(SolesByWhatIsTold x, int sheet, int... items) {
        for (int i = 0; i < items.length; i++) {
            x.sheet(3, 2, 1);
            x.copy(sheet, i, 3, 0, 1);
            x.set(5, 0, items[i]);
            Checks.due("item " + i + " is " + items[i] + "; tells()", x.tells(3, 0, 0), NONE);
        }
        Checks.due("one more", x.cell(sheet, items.length, 0), OUTSIDE);
    }

    private static void promise26Refusals() {
        Checks.begin("promise 26, refusals");
        SolesByWhatIsTold x = new SolesByWhatIsTold();
        x.walker(5, 0, 0);
        Checks.row(x, 0, 2, 1, 2, 3);
        Checks.row(x, 1, 2, 4, 5, 6);
        x.sheet(2, 1, 3);
        Checks.due("copy(4, 0, 1, 0, 1)", x.copy(4, 0, 1, 0, 1), BAD);
        Checks.due("copy(0, 0, 4, 0, 1)", x.copy(0, 0, 4, 0, 1), BAD);
        Checks.due("copy(-1, 0, 1, 0, 1)", x.copy(-1, 0, 1, 0, 1), BAD);
        Checks.due("copy(0, 0, -1, 0, 1)", x.copy(0, 0, -1, 0, 1), BAD);
        Checks.due("copy(3, 0, 4, 0, 1): BAD ahead of -11", x.copy(3, 0, 4, 0, 1), BAD);
        Checks.due("copy(3, 0, 1, 0, 1)", x.copy(3, 0, 1, 0, 1), NOTHING);
        Checks.due("copy(0, 0, 3, 0, 1)", x.copy(0, 0, 3, 0, 1), NOTHING);
        Checks.due("copy(3, 0, 3, 0, -1): -11 ahead of -12", x.copy(3, 0, 3, 0, -1), NOTHING);
        Checks.due("copy(0, 0, 2, 0, 1)", x.copy(0, 0, 2, 0, 1), UNLIKE);
        Checks.due("copy(0, 9, 2, 0, 1): -13 ahead of -12", x.copy(0, 9, 2, 0, 1), UNLIKE);
        Checks.due("copy(0, 0, 2, 0, 0): of none, too", x.copy(0, 0, 2, 0, 0), UNLIKE);
        Checks.due("copy(0, -1, 1, 0, 1)", x.copy(0, -1, 1, 0, 1), OUTSIDE);
        Checks.due("copy(0, 0, 1, -1, 1)", x.copy(0, 0, 1, -1, 1), OUTSIDE);
        Checks.due("copy(0, 0, 1, 0, -1)", x.copy(0, 0, 1, 0, -1), OUTSIDE);
        Checks.due("copy(0, 1, 1, 0, 3)", x.copy(0, 1, 1, 0, 3), OUTSIDE);
        Checks.due("copy(0, 0, 1, 1, 3)", x.copy(0, 0, 1, 1, 3), OUTSIDE);
        Checks.due("copy(0, 4, 1, 0, 0)", x.copy(0, 4, 1, 0, 0), OUTSIDE);
        Checks.due("copy(0, 0, 1, 4, 0)", x.copy(0, 0, 1, 4, 0), OUTSIDE);
        int far = Integer.MAX_VALUE;
        Checks.due("copy(0, 1, 1, 0, far)", x.copy(0, 1, 1, 0, far), OUTSIDE);
        Checks.due("copy(0, far, 1, far, 2)", x.copy(0, far, 1, far, 2), OUTSIDE);
        Checks.due("copy(0, 0, 1, 0, -far - 1)", x.copy(0, 0, 1, 0, -far - 1), OUTSIDE);
        dueRow(x, 1, 4, 5, 6);
        dueRow(x, 0, 1, 2, 3);
    }

    private static void promise27() {
        Checks.begin("promise 27");
        SolesByWhatIsTold x = new SolesByWhatIsTold();
        Checks.row(x, 0, 1, 77, 3, 5, 255, 6, 0, 0, 0, 10, 0, 0, 0, 256, 5, 9, 1);
        Checks.due("walkers(0, 1, 1, 5)", x.walkers(0, 1, 1, 5), 2);
        Checks.due("count(0)", x.count(0), 2);
        Checks.due("KIND", x.told(0, 7), 3);
        Checks.due("NUMBER", x.told(0, 2), 5);
        Checks.due("TIES", x.told(0, 3), 255);
        Checks.due("KIND", x.told(1, 7), 5);
        Checks.due("NUMBER", x.told(1, 2), 9);
        Checks.due("TIES", x.told(1, 3), 1);
        Checks.due("walkers(0, 1, 1, 0)", x.walkers(0, 1, 1, 0), 0);
        // who stood ahead of what is outside came
        Checks.due("walkers(0, 1, 13, 2)", x.walkers(0, 1, 13, 2), OUTSIDE);
        Checks.due("count(0)", x.count(0), 3);
        Checks.due("walkers(0, 1, 14, 1)", x.walkers(0, 1, 14, 1), OUTSIDE);
        Checks.due("walkers(0, 1, 16, 1)", x.walkers(0, 1, 16, 1), OUTSIDE);
        Checks.due("walkers(0, 1, -1, 1)", x.walkers(0, 1, -1, 1), OUTSIDE);
        Checks.due("walkers(0, 1, far, 6)", x.walkers(0, 1, Integer.MAX_VALUE, 6), OUTSIDE);
        Checks.due("walkers(0, 1, -far - 1, 6)", x.walkers(0, 1, Integer.MIN_VALUE, 6), OUTSIDE);
        Checks.due("count(0)", x.count(0), 3);
        // when all are there, others are left out, to the last
        x.sheet(1, 0, 18);
        Checks.due("walkers(1, 0, 0, 6)", x.walkers(1, 0, 0, 6), 3);
        Checks.due("count(0)", x.count(0), 6);
        Checks.due("walkers(1, 0, 0, 6)", x.walkers(1, 0, 0, 6), 0);
        Checks.due("walkers(1, 0, 3, 6)", x.walkers(1, 0, 3, 6), OUTSIDE);
        x = new SolesByWhatIsTold();
        x.sheet(1, 2, 18);
        Checks.due("walkers(1, 2, 0, 6)", x.walkers(1, 2, 0, 6), 6);
    }

    private static void promise27Refusals() {
        Checks.begin("promise 27, refusals");
        SolesByWhatIsTold x = new SolesByWhatIsTold();
        x.sheet(0, 1, 3);
        Checks.due("walkers(4, 1, 0, 1)", x.walkers(4, 1, 0, 1), BAD);
        Checks.due("walkers(-1, 1, 0, 1)", x.walkers(-1, 1, 0, 1), BAD);
        Checks.due("walkers(0, 3, 0, 1)", x.walkers(0, 3, 0, 1), BAD);
        Checks.due("walkers(0, -1, 0, 1)", x.walkers(0, -1, 0, 1), BAD);
        Checks.due("walkers(1, -1, 0, 1), missing", x.walkers(1, -1, 0, 1), BAD);
        Checks.due("walkers(0, 1, 0, 7)", x.walkers(0, 1, 0, 7), BAD);
        Checks.due("walkers(0, 1, 0, -1)", x.walkers(0, 1, 0, -1), BAD);
        Checks.due("walkers(0, 0, 0, 7): BAD ahead of -13", x.walkers(0, 0, 0, 7), BAD);
        Checks.due("walkers(1, 0, 0, 7): BAD ahead of -11", x.walkers(1, 0, 0, 7), BAD);
        Checks.due("walkers(0, 0, 0, 0)", x.walkers(0, 0, 0, 0), UNLIKE);
        Checks.due("walkers(0, 2, 0, 1)", x.walkers(0, 2, 0, 1), UNLIKE);
        Checks.due("walkers(0, 2, 9, 1): -13 ahead of -12", x.walkers(0, 2, 9, 1), UNLIKE);
        // what is missing may be taken for any sort
        for (int sort = 0; sort < 3; sort++) {
            Checks.due("walkers(1, sort, 0, 0)", x.walkers(1, sort, 0, 0), NOTHING);
            Checks.due("walkers(1, sort, -1, 1)", x.walkers(1, sort, -1, 1), NOTHING);
        }
        Checks.due("count(0)", x.count(0), 0);
    }

    private static void promise28() {
        Checks.begin("promise 28");
        SolesByWhatIsTold x = new SolesByWhatIsTold();
        for (int kind = 0; kind < 6; kind++) {
            x.walker(kind, kind + 2, 0);
        }
        // bits of the KINDS that each may be taken for
        int[] bits = {1, 1 + 2, 1 + 4, 1 + 2 + 8, 1 + 4 + 16, 1 + 32};
        for (int kind = 0; kind < 6; kind++) {
            for (int k = 0; k < 6; k++) {
                int wanted = (bits[kind] >> k & 1) == 1 ? kind + 2 : UNLIKE;
                Checks.due("taken(" + kind + ", " + k + ")", x.taken(kind, k), wanted);
            }
        }
        x.set(2, 3, 9);
        Checks.due("taken(3, 1)", x.taken(3, 1), 9);
        Checks.due("taken(0, -1)", x.taken(0, -1), BAD);
        Checks.due("taken(0, 6)", x.taken(0, 6), BAD);
        Checks.due("taken(6, 6): BAD ahead of -11", x.taken(6, 6), BAD);
        Checks.due("taken(6, 0)", x.taken(6, 0), NOTHING);
        Checks.due("taken(-1, 0)", x.taken(-1, 0), NOTHING);
        Checks.due("taken(far, 5)", x.taken(Integer.MAX_VALUE, 5), NOTHING);
    }
}
