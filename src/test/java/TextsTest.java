/** Promises 5 to 7: feed, text, force. */
public final class TextsTest {
    private static final int BAD = SolesByWhatIsTold.BAD, FULL = SolesByWhatIsTold.FULL;

    public static void main(String[] args) {
        promise5();
        promise6();
        promise6Values();
        promise6Faults();
        promise6Open();
        promise6Again();
        promise7();
        Checks.end();
    }

    private static void promise5() {
        Checks.begin("promise 5");
        SolesByWhatIsTold x = new SolesByWhatIsTold();
        Checks.due("feed(-1)", x.feed(-1), BAD);
        Checks.due("feed(256)", x.feed(256), BAD);
        Checks.due("feed(0)", x.feed(0), 1);
        Checks.due("feed(255)", x.feed(255), 2);
        for (int i = 3; i <= 160; i++) {
            Checks.due("feed(i)", x.feed(i), i);
        }
        Checks.due("feed(32), full", x.feed(32), FULL);
        Checks.due("feed(256), full", x.feed(256), BAD);
        Checks.due("count(5)", x.count(5), 160);
        Checks.due("text()", x.text(), -100);
        Checks.due("count(5)", x.count(5), 0);
        Checks.due("feed(1)", x.feed(1), 1);
    }

    private static void promise6() {
        Checks.begin("promise 6");
        SolesByWhatIsTold x = new SolesByWhatIsTold();
        Checks.due("text() of an empty TAPE", x.text(), -100);
        for (int i = 1; i < 6; i++) {
            Checks.due("text()", Checks.text(x, "lasts 1;paces 2;stops 3;"), i);
            Checks.due("count(5)", x.count(5), 0);
            Checks.due("count(4)", x.count(4), i + 1);
        }
        x.feed('l');
        x.feed('(');
        Checks.due("text(), full, ahead of a FAULT", x.text(), FULL);
        Checks.due("count(5): THE TAPE stays", x.count(5), 2);
        Checks.due("count(4)", x.count(4), 6);
        Checks.due("count(6)", x.count(6), 0);

        // a FAULT leaves the TEXTS as they are, and the next one has the number that it would have had
        x = new SolesByWhatIsTold();
        Checks.due("text()", Checks.text(x, "lasts day;paces 2;stops"), -123);
        Checks.due("count(5)", x.count(5), 0);
        Checks.due("count(4)", x.count(4), 1);
        Checks.due("text()", Checks.text(x, "lasts 1;paces 2;stops 3;"), 1);

        // a whole TAPE is read, to its last byte
        StringBuilder long160 = new StringBuilder("lasts 1;paces 2;stops 3");
        while (long160.length() < 159) {
            long160.append(' ');
        }
        Checks.due("text() of 160", Checks.text(x, long160 + ";"), 2);
        Checks.due("text() of 160 that end too early", Checks.text(x, long160 + " "), -260);
        StringBuilder sum = new StringBuilder("lasts 1;paces 2;stops 3");
        while (sum.length() < 157) {
            sum.append("+1");
        }
        x = new SolesByWhatIsTold();
        Checks.due("text() of many", Checks.text(x, sum + ";"), 1);
    }

    private static void promise6Values() {
        Checks.begin("promise 6, values");
        // as LASTS of a DOG's master: a WALKER with told 20, untold 3, step 5, number 4, day 6, worn 7
        value("7", 7);
        value("told", 20);
        value("untold", 3);
        value("step", 5);
        value("number", 4);
        value("day", 6);
        value("worn", 7);
        value("0999", 999);
        value("1+2*3", 7);
        value("(1+2)*3", 9);
        value("20-3-4", 13);
        value("20-(3-4)", 21);
        value("20-3+4", 21);
        value("2*3*4", 24);
        value("- 3 + 10", 7);
        value("- - 3", 3);
        value("2 * - 3 + 10", 4);
        value("10 - - 3", 13);
        value("-(2 - 5)", 3);
        value("1 < 2", 1);
        value("2 < 2", 0);
        value("2 = 2", 1);
        value("2 = 3", 0);
        value("1 + 1 = 4 - 2", 1);
        value("(1 < 2) < 2", 1);
        value("5 or 0", 1);
        value("0 or 0", 0);
        value("0 or 0 or 7", 1);
        value("5 and 7", 1);
        value("5 and 0", 0);
        value("1 or 1 and 0", 1);
        value("(1 or 1) and 0", 0);
        value("0 and 0 or 1", 1);
        value("not 0", 1);
        value("not 5", 0);
        value("not not 5", 1);
        value("not 1 < 2", 0);
        value("not 2 = 3 and 0", 0);
        value("not 0 and 0", 0);
        value("not (0 and 0)", 1);
        value("(not 0) + 4", 5);
        value("3 - (1 = 1)", 2);
        value("told*untold-step*number", 40);
        value("day\n\n*\n worn", 42);
        value("12-worn", 5);
        value("9999*9999*9999 < 0", 1);
        // as much waits for what is read last as ever can: each comes to 1 + 1 * .. or 0
        String wait = "0or 1and 1<1+1*";
        value(wait + "(" + wait + "(" + wait + "(" + wait + "(" + wait + "(" + wait + "1)))))", 1);
        wait = "0or 1and 1<0+1*";
        value(wait + "(" + wait + "(" + wait + "(" + wait + "(" + wait + "(" + wait + "7)))))", 0);
        // -2^31 is its own opposite: 2048 * 2048 * 512
        value("(- (2048*2048*512) < 0) + (2048*2048*512 < 0)", 2);
        value("2048*2048*512 = 2048*2048*512 * 3", 1);
        value("9999 * 9999 * 99 - 9999 * 9999 * 99 + 8", 8);
    }

    private static void value(String e, int wanted) {
        SolesByWhatIsTold x = new SolesByWhatIsTold();
        x.walker(0, 4, 7);
        x.set(1, 1, 3);
        x.set(4, 0, 5);
        x.set(5, 0, 5);
        x.set(0, 0, 6);
        x.set(6, 0, 7);
        Checks.rule(x, "lasts " + e + ";paces 0;stops 0;");
        Checks.due("lasts " + e, x.told(0, 10), wanted);
        Checks.rule(x, "lasts 0;paces " + e + ";stops 0;");
        Checks.due("paces " + e, x.told(0, 11), Math.min(wanted, 99));
        Checks.rule(x, "lasts 0;paces 0;stops " + e + ";");
        Checks.due("stops " + e, x.told(0, 12), wanted == 0 ? 0 : 1);
    }

    private static void promise6Faults() {
        Checks.begin("promise 6, faults");
        fault("^paces 1;stops 1;");
        fault("^told 1;");
        fault("  ^;");
        fault("^1");
        fault("lasts^");
        fault("lasts ^");
        fault("lasts ^;paces 1;stops 1;");
        fault("lasts 1^");
        fault("lasts 1   \n^");
        fault("lasts 1 ^2;");
        fault("lasts 1 ^told;");
        fault("lasts 1 ^(2);");
        fault("lasts 1 ^not 2;");
        fault("lasts 1;^stops 1;");
        fault("lasts 1;^lasts 1;");
        fault("lasts 1;paces 1;stops 1;^;");
        fault("lasts 1;paces 1;stops 1; ^lasts");
        fault("lasts 1;paces 1;stops 1; ^?");
        fault("lasts 1;paces 1;stops 1^");
        fault("lasts 12 ^12345");
        fault("lasts ^12345;");
        fault("lasts ^00000;");
        fault("lasts ^99999999999999999999;");
        fault("lasts 1234^told");
        fault("lasts ^sock;");
        fault("lasts ^tolds;");
        fault("lasts ^toldz;");
        fault("lasts ^atold;");
        fault("lasts ^tol;");
        fault("lasts ^Told;");
        fault("lasts told^T;");
        fault("lasts ^lasts;");
        fault("lasts ^notstep;");
        fault("lasts told ^orday;");
        fault("lasts 1 ^> 2;");
        fault("lasts 1^\t;");
        fault("lasts 1^\r;");
        fault("lasts ^\u00ff;");
        fault("lasts ^\u0000;");
        fault("lasts 1 < 2 ^< 3;");
        fault("lasts 1 = 2 ^< 3;");
        fault("lasts 1 < ^not 3;");
        fault("lasts 1 + ^not 3;");
        fault("lasts - ^not 3;");
        fault("lasts 1 < ^< 3;");
        fault("lasts 1 + ^+ 3;");
        fault("lasts ^+ 3;");
        fault("lasts 1 * ^* 3;");
        fault("lasts 1 or ^or 3;");
        fault("lasts 1 or ^;");
        fault("lasts 1 and ^and 3;");
        fault("lasts ^and 3;");
        fault("lasts not ^;");
        fault("lasts not ^or 1;");
        fault("lasts (^);");
        fault("lasts (1^;");
        fault("lasts (1 + ^);");
        fault("lasts 1^);");
        fault("lasts (1)^);");
        fault("lasts (1 ^2);");
        fault("lasts (1 < 2 ^= 3);");
        fault("lasts (1 ^paces");
        fault("^$lasts");
    }

    private static void promise6Open() {
        Checks.begin("promise 6, what is open");
        fault("lasts (((((^(1))))));");
        fine("lasts (((((1)))));paces 1;stops 1;");
        fault("lasts not not not not not ^not 1;");
        fine("lasts not not not not not 1;paces 1;stops 1;");
        fault("lasts - - - - - ^- 1;");
        fine("lasts - - - - - 1;paces 1;stops 1;");
        fault("lasts (not(-(^-1)));");
        fault("lasts (not(-(^(1))));");
        fine("lasts (not(-(1)));paces 1;stops 1;");
        fault("lasts (((((^not 1)))));");
        fine("lasts (((((1-1)))));paces 1;stops 1;");
        fault("lasts (((((1-^-1)))));");
        // a - is open till its ONE ends, a ( till its ), a not till its NOT ends
        fine("lasts - - - - - 1 * - - - - - 1;paces 1;stops 1;");
        fine("lasts (((((1))))) + (((((1)))));paces 1;stops 1;");
        fine("lasts not not not not not 1 or not not not not not 1;paces 1;stops 1;");
        fine("lasts not not not not not 1 and not not not not not 1;paces 1;stops 1;");
        fault("lasts not not not not not 1 < ^(1);");
        fault("lasts not not not not not 1 * ^- 1;");
        fine("lasts not not not not 1 = (1);paces 1;stops 1;");
        fine("lasts -((((1 - 1))));paces 1;stops 1;");
        fine("lasts (((((1)))));paces (((((1)))));stops - - - - - 1;");
        fault("lasts (not (not 1) or not (not -^-1));");
    }

    private static void promise6Again() {
        Checks.begin("promise 6, behind a FAULT");
        // nothing of what was read ahead of it is left
        SolesByWhatIsTold x = new SolesByWhatIsTold();
        x.walker(0, 0, 0);
        Checks.due("text()", Checks.text(x, "lasts 9 + day * (((((1 + ("), -125);
        Checks.due("text()", Checks.text(x, "lasts (((((77)))));paces 8;stops 0;"), 1);
        x.force(1);
        Checks.due("told(0, 10)", x.told(0, 10), 77);
        Checks.due("told(0, 11)", x.told(0, 11), 8);
        Checks.due("run(0, 40, 0)", x.run(0, 40, 0), 77);
        Checks.due("text()", Checks.text(x, "lasts 9;paces 3;stops 1 or"), -126);
        Checks.due("text()", Checks.text(x, "lasts - - - - - - 1;"), -116);
        Checks.due("text()", Checks.text(x, "lasts 6;paces 5;stops 0;"), 2);
        x.force(2);
        Checks.due("told(0, 10)", x.told(0, 10), 6);
        Checks.due("told(0, 11)", x.told(0, 11), 5);
        Checks.due("told(0, 12)", x.told(0, 12), 0);
    }

    /** The mark ^ stands where the FAULT is. */
    private static void fault(String marked) {
        int place = marked.indexOf('^');
        String letters = marked.substring(0, place) + marked.substring(place + 1);
        SolesByWhatIsTold x = new SolesByWhatIsTold();
        Checks.due("text() of " + marked, Checks.text(x, letters), -100 - place);
        Checks.due("count(4) behind " + marked, x.count(4), 1);
        Checks.due("count(5) behind " + marked, x.count(5), 0);
        fine(x, "lasts 1;paces 1;stops 1;");
    }

    private static void fine(String letters) {
        fine(new SolesByWhatIsTold(), letters);
    }

    private static void fine(SolesByWhatIsTold x, String letters) {
        Checks.due("text() of " + letters, Checks.text(x, letters), 1);
    }

    private static void promise7() {
        Checks.begin("promise 7");
        SolesByWhatIsTold x = new SolesByWhatIsTold();
        x.walker(0, 0, 0);
        Checks.due("force(0)", x.force(0), 0);
        Checks.due("force(1), of which there is none", x.force(1), BAD);
        Checks.due("force(-1)", x.force(-1), BAD);
        Checks.due("text()", Checks.text(x, "lasts 77;paces 2;stops 3;"), 1);
        Checks.due("told(0, 10): no RULE yet", x.told(0, 10), 5);
        Checks.due("text()", Checks.text(x, "lasts 88;paces 2;stops 3;"), 2);
        Checks.due("force(2)", x.force(2), 0);
        Checks.due("told(0, 10)", x.told(0, 10), 88);
        Checks.due("force(3)", x.force(3), BAD);
        Checks.due("count(6)", x.count(6), 2);
        Checks.due("force(1)", x.force(1), 2);
        Checks.due("told(0, 10)", x.told(0, 10), 77);
        Checks.due("force(0)", x.force(0), 1);
        Checks.due("told(0, 10)", x.told(0, 10), 5);
        Checks.due("told(0, 11)", x.told(0, 11), 10);
        Checks.due("told(0, 12)", x.told(0, 12), 0);
        Checks.due("force(Integer.MAX_VALUE)", x.force(Integer.MAX_VALUE), BAD);
    }
}
