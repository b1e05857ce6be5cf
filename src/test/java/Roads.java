/** Objects made alike each time: those that a refused call is tried on, and simple ones. */
final class Roads {
    static final String PLAIN = "lasts 1;paces 1;stops 1;";

    private Roads() {
    }

    static SolesByWhatIsTold empty() {
        return new SolesByWhatIsTold();
    }

    /** Three WALKERS, THE IMAGE of two, a second TEXT, some letters, three SHEETS that tell STEPS of number 1. */
    static SolesByWhatIsTold some() {
        SolesByWhatIsTold x = new SolesByWhatIsTold();
        x.walker(0, 3, 15);
        x.walker(5, 2, 0);
        x.set(0, 0, 12);
        x.set(1, 2, 3);
        x.set(4, 0, 5);
        x.set(5, 0, 20);
        x.set(6, 0, 2);
        x.set(5, 1, 30);
        Checks.text(x, "lasts 50+told;paces 2+number;stops 0;");
        x.force(1);
        x.image();
        x.set(0, 0, 13);
        x.set(5, 0, 21);
        x.walker(3, 7, 6);
        x.set(4, 2, 6);
        x.feed('l');
        x.feed('a');
        x.feed('(');
        tellSteps(x, 5, 32, 2);
        return x;
    }

    /** All that has an end is at its end: WALKERS, TEXTS, THE TAPE, DAY, SHEETS. */
    static SolesByWhatIsTold full() {
        SolesByWhatIsTold x = new SolesByWhatIsTold();
        for (int i = 0; i < 6; i++) {
            x.walker(5 - i, 9, 255);
            x.set(4, i, 255);
        }
        for (int i = 1; i < 6; i++) {
            Checks.text(x, PLAIN);
        }
        for (int i = 0; i < 160; i++) {
            x.feed('(');
        }
        x.image();
        x.set(0, 0, 999);
        tellSteps(x, 40, 9, 9);
        return x;
    }

    /** SHEETS 0 to 2 tell of number 1, or of 0 on the full road, by shorts, bytes and ints; 3 is missing. */
    private static void tellSteps(SolesByWhatIsTold x, int n, int first, int more) {
        x.film(0, x.count(0) == 6 ? 0 : 1, n);
        for (int sheet = 1; sheet < 3; sheet++) {
            x.sheet(sheet, sheet == 1 ? 0 : 2, 5);
            for (int i = 0; i < 5; i++) {
                x.cell(sheet, i, first + more * i);
            }
        }
    }

    /** A WALKER of a KIND with TIES to THINGS 0, which is TOLD, and 1, which is not, so HEAVY. */
    static SolesByWhatIsTold one(int kind, int number, int told, int untold) {
        SolesByWhatIsTold x = new SolesByWhatIsTold();
        x.walker(kind, number, 3);
        x.set(4, 0, 1);
        x.set(1, 0, told);
        x.set(1, 1, untold);
        return x;
    }
}
