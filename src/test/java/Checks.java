/** What the tests have in common: answers beside the due ones, and texts fed letter by letter. */
final class Checks {
    private static int checked = 0;
    private static int wrong = 0;
    private static String part = "";

    private Checks() {
    }

    static void begin(String name) {
        part = name;
    }

    static void due(String call, long got, long want) {
        checked++;
        if (got != want) {
            wrong++;
            System.out.println(part + ": " + call + " answered " + got + ", due is " + want);
        }
    }

    static void yes(String what, boolean is) {
        checked++;
        if (!is) {
            wrong++;
            System.out.println(part + ": not so: " + what);
        }
    }

    static int wrong() {
        return wrong;
    }

    static void end() {
        System.out.println(checked + " checks, " + wrong + " wrong");
        if (wrong != 0) {
            System.exit(1);
        }
    }

    /** Feeds all letters and makes a TEXT of them. */
    static int text(SolesByWhatIsTold x, String letters) {
        for (int i = 0; i < letters.length(); i++) {
            x.feed(letters.charAt(i));
        }
        return x.text();
    }

    /** Makes a TEXT and THE RULE of it. */
    static void rule(SolesByWhatIsTold x, String letters) {
        int text = text(x, letters);
        due("text() of " + letters, text, x.count(4) - 1);
        x.force(text);
    }

    static void rule(SolesByWhatIsTold x, String lasts, String paces, String stops) {
        rule(x, "lasts " + lasts + ";paces " + paces + ";stops " + stops + ";");
    }

    static void row(SolesByWhatIsTold x, int sheet, int sort, int... items) {
        due("sheet()", x.sheet(sheet, sort, items.length), 1);
        for (int i = 0; i < items.length; i++) {
            due("cell()", x.cell(sheet, i, items[i]), 1);
        }
    }
}
