import java.util.Random;

/** Promise 6: many drawn texts, whole and spoilt, and their values, beside the model. */
public final class DrawnTextsTest {
    public static void main(String[] args) {
        Random random = new Random(2);
        Checks.begin("drawn texts");
        int whole = 0;
        for (int i = 0; i < 30000 && Checks.wrong() == 0; i++) {
            String letters = new DrawnText(random).letters(random.nextInt(3) > 0);
            letters = letters.length() > 160 ? letters.substring(0, 160) : letters;
            SolesByWhatIsTold x = new SolesByWhatIsTold();
            int got = Checks.text(x, letters);
            Object read = Model.read(letters);
            Checks.due("text() of " + letters, got, read instanceof Integer place ? -100 - place : 1);
            if (got == 1) {
                whole++;
                values(x, letters, random);
            }
        }
        Checks.yes("some texts are whole, some are not: " + whole, whole > 5000 && whole < 25000);
        Checks.end();
    }

    private static void values(SolesByWhatIsTold x, String letters, Random random) {
        Model model = new Model();
        for (char letter : letters.toCharArray()) {
            model.feed(letter);
        }
        model.text();
        int kind = random.nextInt(6);
        int[] most = {999, 99, 9, 255, 255, 999, 9999};
        Checks.due("walker()", x.walker(kind, 0, 0), model.walker(kind, 0, 0));
        for (int what = 0; what < 7; what++) {
            int v = random.nextInt(most[what] + 1);
            Checks.due("set()", x.set(what, 0, v), model.set(what, 0, v));
        }
        Checks.due("force(1)", x.force(1), model.force(1));
        for (int what = 8; what < 14; what++) {
            Checks.due("told(0, " + what + ") of " + letters, x.told(0, what), model.told(0, what));
        }
        for (int what = 0; what < 4; what++) {
            Checks.due("run(0, 9, " + what + ") of " + letters, x.run(0, 9, what), model.run(0, 9, what));
        }
    }
}
