import java.util.Random;

/** All promises: drawn runs of calls, the class beside the model, the same each time. */
public final class RandomRunsTest {
    private static final int RUNS = 120;
    private static final int CALLS = 512;
    /** The most calls that one pick makes, but for texts. */
    private static final int PICK = 13;
    private static final int[] ODD = {-1, -2, 0, 1, 40, 41, 255, 256, 999, 1000, 9999, 10000,
        Integer.MAX_VALUE, Integer.MIN_VALUE, 65536, -65536, 128, 127};

    private final Random random;
    private final SolesByWhatIsTold x = new SolesByWhatIsTold();
    private final Model model = new Model();
    private int calls = 0;

    private RandomRunsTest(long seed) {
        random = new Random(seed);
    }

    public static void main(String[] args) {
        for (int i = 0; i < RUNS && Checks.wrong() == 0; i++) {
            Checks.begin("drawn run " + i);
            new RandomRunsTest(i).go();
        }
        Checks.end();
    }

    private void go() {
        boolean small = random.nextBoolean();
        for (int i = random.nextInt(7); i > 0; i--) {
            walker();
        }
        for (int t = 0; t < 8; t++) {
            set(1, t, random.nextInt(small ? 6 : 40));
        }
        while (calls + PICK <= CALLS && Checks.wrong() == 0) {
            int pick = random.nextInt(100);
            if (pick < 2 && calls < CALLS - 170) {
                feedText();
            } else if (pick < 25) {
                change();
            } else if (pick < 35) {
                host();
            } else {
                ask();
            }
        }
    }

    private void due(String call, long got, long want) {
        calls++;
        Checks.due("call " + calls + ": " + call, got, want);
    }

    /** Mostly 0 .. most, at times something odd. */
    private int some(int most) {
        int pick = random.nextInt(30);
        return pick == 0 ? ODD[random.nextInt(ODD.length)] : pick == 1 ? most + 1 : random.nextInt(most + 1);
    }

    private int someOne() {
        int many = model.count(0);
        return many > 0 && random.nextInt(15) > 0 ? random.nextInt(many) : some(6);
    }

    private int someStep() {
        return random.nextInt(3) == 0 ? some(999) : some(120);
    }

    private void walker() {
        int a = some(5);
        int b = some(9);
        int c = some(255);
        due("walker(" + a + ", " + b + ", " + c + ")", x.walker(a, b, c), model.walker(a, b, c));
    }

    private void set(int a, int b, int c) {
        due("set(" + a + ", " + b + ", " + c + ")", x.set(a, b, c), model.set(a, b, c));
    }

    private void change() {
        int[] most = {999, 99, 9, 255, 255, 999, 9999, 5};
        switch (random.nextInt(12)) {
            case 0, 1, 2, 3 -> {
                int what = some(6);
                int v = some(what >= 0 && what < 7 ? most[what] : 9);
                v = what == 1 && random.nextBoolean() ? random.nextInt(8) : v;
                v = what == 5 && random.nextBoolean() ? random.nextInt(60) : v;
                v = what == 6 && random.nextInt(4) > 0 ? random.nextInt(60) : v;
                set(what, what == 1 ? some(7) : someOne(), v);
            }
            case 4, 5 -> walker();
            case 6, 7 -> due("day()", x.day(), model.day());
            case 8 -> {
                int one = someOne();
                due("mend(" + one + ")", x.mend(one), model.mend(one));
            }
            case 9 -> {
                int text = some(model.count(4));
                due("force(" + text + ")", x.force(text), model.force(text));
            }
            case 10 -> due("image()", x.image(), model.image());
            default -> due("back()", x.back(), model.back());
        }
    }

    private void ask() {
        int one = someOne();
        int n = some(40);
        int k = someStep();
        int half = some(1);
        int sheet = some(3);
        switch (random.nextInt(16)) {
            case 0, 1 -> {
                int what = some(13);
                due("told(" + one + ", " + what + ")", x.told(one, what), model.told(one, what));
            }
            case 2, 3 -> {
                int what = some(3);
                due("run(" + one + ", " + n + ", " + what + ")", x.run(one, n, what), model.run(one, n, what));
            }
            case 4 -> due("far(" + one + ", " + n + ", " + half + ")", x.far(one, n, half), model.far(one, n, half));
            case 5 -> due("least(" + one + ", " + k + ", " + half + ")",
                x.least(one, k, half), model.least(one, k, half));
            case 6 -> {
                int thing = some(7);
                due("heaviest(" + thing + ", " + one + ", " + k + ")",
                    x.heaviest(thing, one, k), model.heaviest(thing, one, k));
            }
            case 7 -> due("away(" + k + ", " + half + ")", x.away(k, half), model.away(k, half));
            case 8 -> due("keeper(" + n + ", " + half + ")", x.keeper(n, half), model.keeper(n, half));
            case 9 -> due("spare(" + one + ", " + n + ")", x.spare(one, n), model.spare(one, n));
            case 10, 11 -> askOfSheet(sheet, one);
            case 12 -> due("drawn(.., " + n + ")", x.drawn(k * 77777777, n), model.drawn(k * 77777777, n));
            case 13 -> {
                int m = some(20);
                due("chance(" + k + ", " + m + ", " + half + ")", x.chance(k, m, half), model.chance(k, m, half));
            }
            case 14 -> {
                int what = some(6);
                due("count(" + what + ")", x.count(what), model.count(what));
            }
            default -> {
                int kind = some(5);
                due("taken(" + one + ", " + kind + ")", x.taken(one, kind), model.taken(one, kind));
            }
        }
    }

    private void askOfSheet(int sheet, int one) {
        if (random.nextInt(3) > 0) {
            int n = random.nextInt(3) == 0 ? some(40) : some(4);
            due("film(" + sheet + ", " + one + ", " + n + ")", x.film(sheet, one, n), model.film(sheet, one, n));
        }
        for (int i = random.nextInt(6); i > 0; i--) {
            int what = some(7);
            due("tells(" + sheet + ", " + one + ", " + what + ")",
                x.tells(sheet, one, what), model.tells(sheet, one, what));
        }
    }

    private void host() {
        int sheet = some(3);
        switch (random.nextInt(4)) {
            case 0 -> {
                int sort = some(2);
                int n = some(random.nextBoolean() ? 40 : 9);
                due("sheet(" + sheet + ", " + sort + ", " + n + ")", x.sheet(sheet, sort, n), model.sheet(sheet, sort, n));
            }
            case 1 -> {
                for (int i = random.nextInt(12); i >= 0; i--) {
                    int at = random.nextBoolean() ? i : some(40);
                    int v = some(random.nextInt(3) == 0 ? 300 : 6);
                    due("cell(" + sheet + ", " + at + ", " + v + ")", x.cell(sheet, at, v), model.cell(sheet, at, v));
                }
            }
            case 2 -> {
                int i = some(6);
                int other = some(3);
                int j = some(6);
                int n = some(8);
                due("copy(" + sheet + ", " + i + ", " + other + ", " + j + ", " + n + ")",
                    x.copy(sheet, i, other, j, n), model.copy(sheet, i, other, j, n));
            }
            default -> {
                int sort = some(2);
                int from = some(5);
                int n = some(6);
                due("walkers(" + sheet + ", " + sort + ", " + from + ", " + n + ")",
                    x.walkers(sheet, sort, from, n), model.walkers(sheet, sort, from, n));
            }
        }
    }

    private void feedText() {
        String letters = new DrawnText(random).letters();
        for (int i = 0; i < letters.length(); i++) {
            int letter = letters.charAt(i);
            due("feed(" + letter + ")", x.feed(letter), model.feed(letter));
        }
        due("text() of " + letters, x.text(), model.text());
        int text = model.count(4) - 1;
        due("force(" + text + ")", x.force(text), model.force(text));
    }
}
