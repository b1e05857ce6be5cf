/** Promises 5 to 7, the sentences that name a bound: THE TAPE, TOKENS, FAULTS, what is open, TEXTS. */
public final class EdgesOfTextsTest {
    private static final int BAD = SolesByWhatIsTold.BAD, FULL = SolesByWhatIsTold.FULL;
    private static final int LEAST = Refusals.LEAST, MOST = Refusals.MOST;
    private static final String[] NAMES = {"told", "untold", "step", "number", "day", "worn"};
    private static final String[] KEYS = {"lasts", "paces", "stops", "or", "and", "not"};
    private static final String[] SIGNS = {"(", ")", ";", "+", "-", "*", "<", "="};

    public static void main(String[] args) {
        feedAtBounds();
        feedRefused();
        feedBehindText();
        textFull();
        textEmptiesTheTape();
        textNumbers();
        textBehindFaults();
        placesOfFaults();
        endsTooEarly();
        everyByte();
        everyToken();
        tokensAreLong();
        numbersOfFour();
        blanks();
        sixOpen();
        openTillItEnds();
        mostWaits();
        oneComparison();
        valuesWrap();
        truthIsOne();
        forceAtBounds();
        forceRefused();
        Checks.end();
    }

    // ---- promise 5

    private static void feedAtBounds() {
        Checks.begin("promise 5: a byte, 0 .. 255; 160 bytes at most");
        SolesByWhatIsTold x = new SolesByWhatIsTold();
        Checks.due("feed(0), the first", x.feed(0), 1);
        Checks.due("feed(255)", x.feed(255), 2);
        for (int i = 3; i < 160; i++) {
            x.feed(32);
        }
        Checks.due("count(5)", x.count(5), 159);
        Checks.due("feed(0), the last", x.feed(0), 160);
        Checks.due("count(5)", x.count(5), 160);
        Checks.due("feed(0), one more", x.feed(0), FULL);
        Checks.due("feed(255), one more", x.feed(255), FULL);
        Checks.due("count(5)", x.count(5), 160);
    }

    private static void feedRefused() {
        Checks.begin("promise 5: BAD; FULL");
        Refusals some = new Refusals(Roads::some);
        Refusals full = new Refusals(Roads::full);
        int[] letters = {LEAST, -256, -1, 256, 300, 65536, MOST};
        for (int letter : letters) {
            some.due("feed(" + letter + ")", x -> x.feed(letter), BAD);
            full.due("feed(" + letter + "), full", x -> x.feed(letter), BAD);
        }
        full.due("feed(32), full", x -> x.feed(32), FULL);
    }

    private static void feedBehindText() {
        Checks.begin("promise 5: a byte comes behind THE TAPE, as it is then");
        SolesByWhatIsTold x = new SolesByWhatIsTold();
        for (int i = 0; i < 161; i++) {
            x.feed('(');
        }
        Checks.due("text()", x.text(), -100);
        Checks.due("feed('l')", x.feed('l'), 1);
        for (char letter : "asts 1;paces 1;stops 1;".toCharArray()) {
            x.feed(letter);
        }
        Checks.due("text(): nothing of the one ahead is left", x.text(), 1);
        // what is refused does not come behind THE TAPE
        x.feed('l');
        x.feed(256 + '?');
        x.feed(-1);
        for (char letter : "asts 1;paces 1;stops 1;".toCharArray()) {
            x.feed(letter);
        }
        Checks.due("text()", x.text(), 2);
    }

    // ---- promise 6

    private static void textFull() {
        Checks.begin("promise 6: FULL ahead of all; THE TAPE stays");
        new Refusals(Roads::full).due("text() of a FAULT, full", SolesByWhatIsTold::text, FULL);
        SolesByWhatIsTold x = new SolesByWhatIsTold();
        for (int i = 1; i < 6; i++) {
            Checks.due("text(), 6 at most", Checks.text(x, Roads.PLAIN), i);
        }
        Checks.due("text() of an empty TAPE, full", x.text(), FULL);
        Checks.due("text() of a whole one, full", Checks.text(x, Roads.PLAIN), FULL);
        Checks.due("count(5)", x.count(5), Roads.PLAIN.length());
        Checks.due("text() again", x.text(), FULL);
        Checks.due("feed(59)", x.feed(59), Roads.PLAIN.length() + 1);
        Checks.due("count(4)", x.count(4), 6);
    }

    private static void textEmptiesTheTape() {
        Checks.begin("promise 6: THE TAPE is empty then, by a FAULT, too");
        String[] faults = {"", " ", "?", "lasts", "lasts 1;paces 1;stops 1;;", "lasts 12345;", "lasts ((((((1"};
        for (String letters : faults) {
            SolesByWhatIsTold x = new SolesByWhatIsTold();
            Checks.yes("a FAULT of " + letters, Checks.text(x, letters) <= -100);
            Checks.due("count(5)", x.count(5), 0);
            Checks.due("count(4)", x.count(4), 1);
            Checks.due("text() of the empty TAPE", x.text(), -100);
            Checks.due("text() behind it", Checks.text(x, Roads.PLAIN), 1);
            Checks.due("count(5)", x.count(5), 0);
            Checks.due("text() of the empty TAPE", x.text(), -100);
        }
    }

    private static void textNumbers() {
        Checks.begin("promise 6: its number; a FAULT takes none");
        SolesByWhatIsTold x = new SolesByWhatIsTold();
        x.walker(0, 0, 0);
        for (int i = 1; i < 6; i++) {
            Checks.due("text() of a FAULT", Checks.text(x, "lasts 9"), -107);
            Checks.due("text()", Checks.text(x, "lasts 1" + i + ";paces 1;stops 1;"), i);
            Checks.due("count(4)", x.count(4), i + 1);
            Checks.due("count(6): none is THE RULE by that", x.count(6), 0);
        }
        for (int i = 1; i < 6; i++) {
            x.force(i);
            Checks.due("LASTS by TEXT " + i, x.told(0, 10), 10 + i);
        }
    }

    private static void textBehindFaults() {
        Checks.begin("promise 6: of what a FAULT stood in nothing is left");
        SolesByWhatIsTold x = new SolesByWhatIsTold();
        x.walker(0, 0, 0);
        // 5 were open, and one more
        Checks.due("text() of a FAULT", Checks.text(x, "lasts - - - - - -"), -116);
        Checks.due("text() of a FAULT", Checks.text(x, "lasts (((((1"), -112);
        Checks.due("text()", Checks.text(x, "lasts (((((7)))));paces 3;stops 1;"), 1);
        // a not stood behind what the next one comes to
        Checks.due("text() of a FAULT", Checks.text(x, "lasts 1;paces 1;stops not 1"), -127);
        Checks.due("text()", Checks.text(x, "lasts 8;paces 4;stops 1;"), 2);
        Checks.due("text() of a FAULT", Checks.text(x, "lasts 1 + 1;paces 1 + 1;stops - 1 * 9 ?"), -138);
        Checks.due("text()", Checks.text(x, "lasts 9;paces 5;stops 0;"), 3);
        int[][] due = {{5, 10, 0}, {7, 3, 1}, {8, 4, 1}, {9, 5, 0}};
        for (int text = 0; text < 4; text++) {
            x.force(text);
            for (int k = 0; k < 3; k++) {
                Checks.due("told(0, " + (10 + k) + ") by TEXT " + text, x.told(0, 10 + k), due[text][k]);
            }
        }
    }

    private static void fault(String letters, int place) {
        SolesByWhatIsTold x = new SolesByWhatIsTold();
        Checks.due("text() of " + letters, Checks.text(x, letters), place < 0 ? 1 : -100 - place);
    }

    private static void fine(String letters) {
        fault(letters, -1);
    }

    private static String wide(String letters, int size) {
        StringBuilder all = new StringBuilder();
        while (all.length() + letters.length() < size) {
            all.append(' ');
        }
        return all + letters;
    }

    private static void placesOfFaults() {
        Checks.begin("promise 6: -100 less the place of its FAULT, 0 .. 160");
        for (int place = 0; place < 160; place++) {
            fault(wide("?", place + 1), place);
        }
        fault(wide("lasts 1;paces 1;stops 1;?", 160), 159);
        fault(wide("lasts 1;paces 1;stops 1;1", 160), 159);
        fault(wide("lasts 1;paces 1;stops 1", 160), 160);
        fault(wide("lasts 1;paces 1;stops ", 160), 160);
        fault(wide("lasts", 160), 160);
        fault(wide("last", 160), 156);
        fault(wide("lasts 12345", 160), 155);
        fault(wide("lasts 1234", 160), 160);
        fine(wide("lasts 1;paces 1;stops 1;", 160));
        // the first one is told
        fault("? ? ?", 0);
        fault("lasts 1 2 ?", 8);
        fault("lasts 1 ? 2", 8);
        fault("lasts ((((((12345 ?", 11);
        fault("lasts (((((12345 ?", 11);
        fault("lasts 1 ((((((1", 8);
    }

    private static void endsTooEarly() {
        Checks.begin("promise 6: the text's size, if it ends too early");
        String whole = "lasts (1);paces - 2 * 3 + 4;stops not 5 < 6 and told or untold;";
        for (int size = 0; size < whole.length(); size++) {
            boolean inWord = size > 0 && isLetter(whole.charAt(size - 1)) && isLetter(whole.charAt(size));
            if (!inWord) {
                fault(whole.substring(0, size), size);
                fault(whole.substring(0, size) + " \n ", size + 3);
            }
        }
        fine(whole);
        fine(whole + " \n ");
        fault("", 0);
        fault("     ", 5);
    }

    private static boolean isLetter(char c) {
        return c >= 'a' && c <= 'z';
    }

    private static boolean isDigit(char c) {
        return c >= '0' && c <= '9';
    }

    private static boolean isBlank(char c) {
        return c == 32 || c == 10;
    }

    private static void everyByte() {
        Checks.begin("promise 6: WORDS a .. z, NUMBERS, SIGNS, blanks 32 and 10; a FAULT of a byte that begins none");
        for (char c = 0; c < 256; c++) {
            // ahead of all
            fault(c + Roads.PLAIN, isBlank(c) ? -1 : 0);
            // behind all
            fault(Roads.PLAIN + c, isBlank(c) ? -1 : Roads.PLAIN.length());
            // where a ONE is due
            fault("lasts " + c + ";paces 1;stops 1;", isDigit(c) ? -1 : "-(".indexOf(c) >= 0 ? 7 : isBlank(c) ? 7 : 6);
            // behind a ONE, ahead of a ONE
            int place = isDigit(c) || "+-*<=".indexOf(c) >= 0 ? -1 : isBlank(c) || c == ';' ? 8 : 7;
            fault("lasts 5" + c + "2;paces 1;stops 1;", place);
            // behind a NAME, without a blank
            place = isBlank(c) ? -1 : "+-*<=".indexOf(c) >= 0 ? 11 : c == ';' ? 11 : isLetter(c) ? 6 : 10;
            fault("lasts told" + c + ";paces 1;stops 1;", place);
        }
    }

    /** Every TOKEN at every place of a TEXT where all kinds of places are. */
    private static void everyToken() {
        Checks.begin("promise 6: the first TOKEN that can't stand there");
        String ends = " ;paces 1;stops 1;";
        String[] ahead = {"lasts ", "lasts ( ", "lasts not ", "lasts 1 or ", "lasts 1 and ", "lasts not not "};
        for (String letters : ahead) {
            String close = letters.contains("(") ? ")" : "";
            for (String name : NAMES) {
                fine(letters + name + close + ends);
            }
            for (String key : KEYS) {
                fault(letters + key + " 1" + close + ends, key.equals("not") ? -1 : letters.length());
            }
            for (String sign : SIGNS) {
                boolean opens = sign.equals("(") || sign.equals("-");
                fault(letters + sign + " 1" + (sign.equals("(") ? ")" : "") + close + ends, opens ? -1 : letters.length());
            }
        }
        String[] within = {"lasts 1 + ", "lasts 1 - ", "lasts 1 * ", "lasts 1 < ", "lasts 1 = ", "lasts - ", "lasts not - "};
        for (String letters : within) {
            for (String name : NAMES) {
                fine(letters + name + ends);
            }
            for (String key : KEYS) {
                fault(letters + key + " 1" + ends, letters.length());
            }
            for (String sign : SIGNS) {
                boolean opens = sign.equals("(") || sign.equals("-");
                fault(letters + sign + " 1" + (sign.equals("(") ? ")" : "") + ends, opens ? -1 : letters.length());
            }
        }
        String[] behind = {"lasts 1 ", "lasts told ", "lasts (1) ", "lasts - 1 ", "lasts not 1 ", "lasts 1 + 1 ", "lasts 1 or 1 "};
        for (String letters : behind) {
            for (String name : NAMES) {
                fault(letters + name + ends, letters.length());
            }
            fault(letters + "1" + ends, letters.length());
            for (String key : KEYS) {
                boolean joins = key.equals("or") || key.equals("and");
                fault(letters + key + " 1" + ends, joins ? -1 : letters.length());
            }
            for (String sign : SIGNS) {
                int place = "+-*<=".contains(sign) ? -1 : letters.length() + (sign.equals(";") ? 2 : 0);
                fault(letters + sign + " 1" + ends, place);
            }
        }
        partsInOrder();
    }

    private static void partsInOrder() {
        String[] parts = {"lasts 1;", "paces 1;", "stops 1;"};
        for (int i = 0; i < 27; i++) {
            int[] order = {i / 9, i / 3 % 3, i % 3};
            int place = order[0] != 0 ? 0 : order[1] != 1 ? 8 : order[2] != 2 ? 16 : -1;
            fault(parts[order[0]] + parts[order[1]] + parts[order[2]], place);
        }
        fault("lasts 1;paces 1;", 16);
        fault("lasts 1;", 8);
        for (String part : parts) {
            fault(Roads.PLAIN + part, 24);
        }
        fault("lasts 1;paces 1;stops 1;;", 24);
        fault(";lasts 1;paces 1;stops 1;", 0);
        fault("lasts 1;;paces 1;stops 1;", 8);
        fault("lasts;paces 1;stops 1;", 5);
    }

    private static void tokensAreLong() {
        Checks.begin("promise 6: TOKENS, each as long as can be");
        fine("lasts1;paces2;stops3;");
        fine("lasts-1;paces(2);stops(3)or(4)and-5;");
        fine("lasts 1or 2and 3;paces 1or not 2;stops 3;");
        fault("lasts1paces", 6);
        fault("lastspaces", 0);
        fault("lastss 1;", 0);
        fault("last 1;", 0);
        fault("la sts 1;", 0);
        fault("lasts nottold;", 6);
        fault("lasts not not1", 14);
        fault("lasts 1 orr 2;", 8);
        fault("lasts 1 ora;", 8);
        fault("lasts 1 andtold;", 8);
        fault("lasts 1 an d", 8);
        fault("lasts told1;", 10);
        fault("lasts 1told;", 7);
        fault("lasts 1 2;", 8);
        fault("lasts un told;", 6);
        fault("lasts untol d;", 6);
        fault("lasts stept;", 6);
        // a NAME is a WORD of its own, not the beginning nor the end of another
        for (String name : NAMES) {
            fault("lasts " + name + "x;", 6);
            fault("lasts x" + name + ";", 6);
            fault("lasts " + name.substring(1) + ";", 6);
            fault("lasts " + name.substring(0, name.length() - 1) + ";", 6);
            fault("lasts " + name + name + ";", 6);
            fault("lasts " + name.substring(0, name.length() - 1) + "x;", 6);
            fault("lasts x" + name.substring(1) + ";", 6);
        }
        for (int i = 0; i < 3; i++) {
            String before = "lasts 1;paces 1;stops 1;".substring(0, 8 * i);
            fault(before + KEYS[i] + "x 1;", 8 * i);
            fault(before + KEYS[i].substring(1) + " 1;", 8 * i);
            fault(before + KEYS[i].substring(0, 4) + " 1;", 8 * i);
            fault(before + KEYS[i].substring(0, 4) + "x 1;", 8 * i);
        }
    }

    private static int lasts(String e) {
        SolesByWhatIsTold x = new SolesByWhatIsTold();
        x.walker(0, 0, 0);
        Checks.rule(x, e, "1", "1");
        return x.told(0, 10);
    }

    private static void numbersOfFour() {
        Checks.begin("promise 6: NUMBERS, as many digits as stand there, 4 at most");
        String[] fine = {"0", "7", "00", "0000", "0001", "0999", "9999", "1000"};
        int[] due = {0, 7, 0, 0, 1, 999, 999, 999};
        for (int i = 0; i < fine.length; i++) {
            Checks.due("lasts " + fine[i], lasts(fine[i]), due[i]);
        }
        Checks.due("9999 is whole", lasts("9999 - 9000"), 999);
        Checks.due("1234 is whole", lasts("1234 = 1000 + 200 + 30 + 4"), 1);
        String[] tooLong = {"00000", "00001", "10000", "12345", "99999", "4294967296", "18446744073709551616", "000000000000"};
        for (String amount : tooLong) {
            fault("lasts " + amount + ";paces 1;stops 1;", 6);
            fault("lasts 1+" + amount + ";paces 1;stops 1;", 8);
            fault("lasts 1 " + amount, 8);
            fault(amount, 0);
        }
        fault("lasts 1234 5;", 11);
    }

    private static void blanks() {
        Checks.begin("promise 6: blanks, 32 and 10, may stand between");
        fine(" \n lasts \n 1 \n ; \n paces \n ( \n 1 \n ) \n ; \n stops \n not \n 1 \n < \n 2 \n ; \n ");
        fine("lasts\n1;paces\n1;stops\n1;");
        fine("lasts 1;paces 1;stops 1;\n\n\n");
        fault("lasts 1;pa\nces 1;stops 1;", 8);
        fault("lasts 1 1;", 8);
        fault("lasts 12\n34;", 9);
    }

    private static String many(String piece, int n) {
        StringBuilder all = new StringBuilder();
        for (int i = 0; i < n; i++) {
            all.append(piece);
        }
        return all.toString();
    }

    private static void sixOpen() {
        Checks.begin("promise 6: a ( , a not, a - while 5 of these are open");
        String ends = ";paces 1;stops 1;";
        // each row of five openings out of three; a sixth one of each kind
        for (int i = 0; i < 243; i++) {
            StringBuilder open = new StringBuilder("lasts ");
            StringBuilder close = new StringBuilder();
            boolean notMayStand = true;
            boolean fits = true;
            for (int k = 0, rest = i; k < 5; k++, rest /= 3) {
                String token = new String[] {"( ", "not ", "- "}[rest % 3];
                fits &= notMayStand || rest % 3 != 1;
                notMayStand = rest % 3 != 2;
                open.append(token);
                close.append(rest % 3 == 0 ? ")" : "");
            }
            if (fits) {
                fine(open + "1" + close + ends);
                fault(open + "(1)" + close + ends, open.length());
                fault(open + "- 1" + close + ends, open.length());
                fault(open + "not 1" + close + ends, open.length());
                // a - at the end has its ONE behind it, and is open no more
                fault(open + "1 - 1 * (1)" + close + ends, notMayStand ? open.length() + 8 : -1);
                fine(open + "1 - 1 + 1 * 1 < 1 - 1" + close + ends);
            }
        }
        // a - between two is none that is open
        fine("lasts ((((( 1 - 1 - 1 )))))" + ends);
        fault("lasts ((((( 1 - - 1 )))))" + ends, 16);
        fine("lasts (((( 1 - - 1 ))))" + ends);
        fine("lasts 1" + many("-1", 60) + ends);
    }

    private static void openTillItEnds() {
        Checks.begin("promise 6: a ( till its ) , not and - till what they belong to ends");
        String ends = ";paces 1;stops 1;";
        String[] five = {"(((((1)))))", "- - - - - 1", "((- - -1))", "(-(-(1)))"};
        String[] signs = {"+", "-", "*", "<", "=", " or ", " and "};
        for (String one : five) {
            for (String other : five) {
                for (String sign : signs) {
                    fine("lasts " + one + sign + other + ends);
                }
                fine("lasts 1;paces " + one + ";stops " + other + ";");
            }
        }
        String not = "not not not not not ";
        fine("lasts " + not + "1 or " + not + "1 and " + not + "1;paces " + not + "1;stops " + not + "1;");
        // a not belongs to a NOT: it is open through < and =, and what stands behind these
        fault("lasts " + not + "1 < (2)" + ends, 6 + 20 + 4);
        fault("lasts " + not + "1 = - 2" + ends, 6 + 20 + 4);
        fault("lasts " + not + "1 + (2)" + ends, 6 + 20 + 4);
        fault("lasts " + not + "1 * - 2" + ends, 6 + 20 + 4);
        fine("lasts not not not not 1 < (2)" + ends);
        // a - belongs to a ONE alone
        fine("lasts - - - - - 1 + - - - - - 1 * - - - - - 1 < (((((1)))))" + ends);
        fine("lasts (((( - 1 + - 1 * - 1 < - 1 or - 1 and not 1 - 1 ))))" + ends);
        fault("lasts (((( - 1 and not - 1 ))))" + ends, 23);
        // a ( ends at its ) , not ahead
        fine("lasts ((((1) + (1)) * (1)) - ((((1)))))" + ends);
        fault("lasts (((((1) + 1) * 1) - (((1 + (1))))))" + ends, 33);
    }

    private static void mostWaits() {
        Checks.begin("promise 6: as much as can wait for what 5 ( hold");
        // of each level an or, an and, a <, a + and a * wait: 6 levels
        String[] last = {"1", "7", "0"};
        int[] values = {1, 1, 0};
        for (int i = 0; i < 3; i++) {
            String wait = "0or 1and 0<0+1*";
            String e = last[i] + ")))))";
            for (int level = 0; level < 6; level++) {
                e = (level < 5 ? "(" : "") + wait + e;
            }
            Checks.due(e, lasts(e), values[i]);
        }
        Checks.due("nots wait", lasts("0or 1and not(0or 1and not(0or 1and not 1<0+1*7))"), 0);
        Checks.due("nots wait", lasts("0or 1and not(0or 1and not(0or 1and not 1<0+1*1))"), 1);
        Checks.due("- wait", lasts("9-2*-(8-3*-(7-2*-1))"), 9 + 2 * (8 + 3 * (7 + 2)));
    }

    private static void oneComparison() {
        Checks.begin("promise 6: perhaps < or = and a SUM");
        String ends = ";paces 1;stops 1;";
        String[] signs = {"<", "="};
        for (String first : signs) {
            for (String second : signs) {
                fault("lasts 1 " + first + " 2 " + second + " 3" + ends, 12);
                fine("lasts (1 " + first + " 2) " + second + " 3" + ends);
                fine("lasts 1 " + first + " (2 " + second + " 3)" + ends);
                fine("lasts 1 " + first + " 2 or 2 " + second + " 3" + ends);
                fine("lasts 1 " + first + " 2 and 2 " + second + " 3" + ends);
                fault("lasts not 1 " + first + " 2 " + second + " 3" + ends, 16);
                fault("lasts (1 " + first + " 2 " + second + " 3)" + ends, 13);
                fault("lasts 1 " + first + second + " 3" + ends, 9);
            }
        }
    }

    private static void is(String e, int wanted) {
        Checks.due(e, lasts(e), wanted);
    }

    private static void valuesWrap() {
        Checks.begin("promise 6: an E is an int, 32 bits, wrapping");
        String top = "2048*2048*512";
        is(top + " < 0", 1);
        is(top + " - 1 < 0", 0);
        is(top + " - 1 + 1 = " + top, 1);
        is("- (" + top + ") = " + top, 1);
        is("0 - " + top + " = " + top, 1);
        is(top + " + " + top, 0);
        is(top + " * 2", 0);
        is(top + " * 2 + 7", 7);
        is("2048*2048*1024", 0);
        is("2048*2048*1024 + 3", 3);
        is("9999*9999*21 < 9999*9999*22", 0);
        is("9999*9999*20 < 9999*9999*21", 1);
        // 9999 * 9999 * 43 is 4299140043, which is 4172747 and 2^32
        is("9999*9999*43 = 9999*417 + 3164", 1);
        is("0 < " + top, 0);
        is(top + " < 0 - " + top + " + 1", 1);
        is("not (" + top + ")", 0);
        is(top + " and 1", 1);
        is(top + " or 0", 1);
    }

    private static void truthIsOne() {
        Checks.begin("promise 6: of or, and, not, <, = 1 or 0; what is not 0 is true");
        String[] values = {"0", "1", "2", "999", "- 1", "- 7", "0 - 0"};
        boolean[] is = {false, true, true, true, true, true, false};
        for (int i = 0; i < values.length; i++) {
            is("not (" + values[i] + ")", is[i] ? 0 : 1);
            for (int j = 0; j < values.length; j++) {
                is("(" + values[i] + ") or (" + values[j] + ")", is[i] || is[j] ? 1 : 0);
                is("(" + values[i] + ") and (" + values[j] + ")", is[i] && is[j] ? 1 : 0);
            }
        }
        is("1 < 2", 1);
        is("2 < 2", 0);
        is("3 < 2", 0);
        is("- 2 < - 1", 1);
        is("- 2 < 1", 1);
        is("1 < - 2", 0);
        is("1 = 2", 0);
        is("2 = 2", 1);
        is("- 2 = 2", 0);
        // which binds how closely, each beside the next
        is("2 + 3 * 4", 14);
        is("2 * 3 + 4", 10);
        is("10 - 3 - 2", 5);
        is("10 - 3 + 2", 9);
        is("10 - 2 * 3", 4);
        is("3 < 1 + 3", 1);
        is("1 + 3 < 3", 0);
        is("2 = 1 + 1", 1);
        is("not 1 = 0", 1);
        is("not 0 = 1", 1);
        is("not 3 + 1", 0);
        is("not 0 and 0", 0);
        is("not 1 or 1", 1);
        is("1 or 0 and 0", 1);
        is("0 and 0 or 1", 1);
        is("- 2 + 5", 3);
        is("- 2 * - 5", 10);
        is("- (2 - 5)", 3);
        is("7 - - 2", 9);
    }

    // ---- promise 7

    private static void forceAtBounds() {
        Checks.begin("promise 7: a TEXT, which was");
        SolesByWhatIsTold x = Roads.full();
        int was = 0;
        for (int text = 5; text >= 0; text--) {
            Checks.due("force(" + text + ")", x.force(text), was);
            Checks.due("force(" + text + ") again", x.force(text), text);
            Checks.due("count(6)", x.count(6), text);
            was = text;
        }
    }

    private static void forceRefused() {
        Checks.begin("promise 7: BAD");
        Refusals empty = new Refusals(Roads::empty);
        Refusals some = new Refusals(Roads::some);
        Refusals full = new Refusals(Roads::full);
        int[] texts = {LEAST, -1, 6, 256, MOST};
        for (int text : texts) {
            empty.due("force(" + text + ")", x -> x.force(text), BAD);
            some.due("force(" + text + ")", x -> x.force(text), BAD);
            full.due("force(" + text + ")", x -> x.force(text), BAD);
        }
        empty.due("force(1) of TEXT 0 alone", x -> x.force(1), BAD);
        some.due("force(2) of two", x -> x.force(2), BAD);
        SolesByWhatIsTold x = new SolesByWhatIsTold();
        Checks.text(x, "lasts 1;paces 1;stops 1");
        Checks.due("force(1) behind a FAULT", x.force(1), BAD);
        x.feed('l');
        x.image();
        Checks.text(x, "asts 1;paces 1;stops 1;");
        Checks.due("force(1)", x.force(1), 0);
        x.back();
        Checks.due("count(6) behind back()", x.count(6), 0);
        Checks.due("force(1), a TEXT yet", x.force(1), 0);
    }
}
