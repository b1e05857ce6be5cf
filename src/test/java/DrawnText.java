import java.util.ArrayList;
import java.util.List;
import java.util.Random;

/** Texts by the document's grammar, of which some are spoilt then. */
final class DrawnText {
    private static final String[] NAMES = {"told", "untold", "step", "number", "day", "worn"};
    private static final String[] ANY = {"told", "untold", "step", "number", "day", "worn", "lasts", "paces", "stops",
        "or", "and", "not", "(", ")", ";", "+", "-", "*", "<", "=", "7", "1234", "12345", "sock", "?", "T", "\t"};

    private final Random random;
    private final List<String> tokens = new ArrayList<>();

    DrawnText(Random random) {
        this.random = random;
    }

    String letters() {
        return letters(random.nextInt(4) == 0);
    }

    String letters(boolean spoilt) {
        int deep = random.nextInt(5);
        String[] keys = {"lasts", "paces", "stops"};
        for (String key : keys) {
            tokens.add(key);
            if (key.equals("lasts") && random.nextBoolean()) {
                tokens.add("" + random.nextInt(90));
                tokens.add("+");
                sum(deep);
            } else if (key.equals("stops") && random.nextBoolean()) {
                sum(deep);
                tokens.add("<");
                sum(deep);
            } else {
                either(deep);
            }
            tokens.add(";");
        }
        for (int i = spoilt ? 1 + random.nextInt(2) : 0; i > 0; i--) {
            spoil();
        }
        StringBuilder all = new StringBuilder();
        for (String token : tokens) {
            boolean both = all.length() > 0 && isSolid(all.charAt(all.length() - 1)) && isSolid(token.charAt(0));
            if (both && random.nextInt(40) > 0 || random.nextInt(6) == 0) {
                all.append(random.nextInt(5) == 0 ? '\n' : ' ');
            }
            all.append(token);
        }
        return all.length() > 165 ? all.substring(0, 165) : all.toString();
    }

    private static boolean isSolid(char c) {
        return Character.isLetterOrDigit(c);
    }

    private void spoil() {
        if (tokens.isEmpty()) {
            return;
        }
        int at = random.nextInt(tokens.size());
        switch (random.nextInt(4)) {
            case 0 -> tokens.remove(at);
            case 1 -> tokens.set(at, ANY[random.nextInt(ANY.length)]);
            case 2 -> tokens.add(at, ANY[random.nextInt(ANY.length)]);
            default -> tokens.subList(at, tokens.size()).clear();
        }
    }

    private void either(int deep) {
        both(deep);
        while (random.nextInt(7) == 0) {
            tokens.add("or");
            both(deep);
        }
    }

    private void both(int deep) {
        not(deep);
        while (random.nextInt(7) == 0) {
            tokens.add("and");
            not(deep);
        }
    }

    private void not(int deep) {
        if (deep > 0 && random.nextInt(7) == 0) {
            tokens.add("not");
            not(deep - 1);
            return;
        }
        sum(deep);
        if (random.nextInt(6) == 0) {
            tokens.add(random.nextBoolean() ? "<" : "=");
            sum(deep);
        }
    }

    private void sum(int deep) {
        term(deep);
        while (random.nextInt(3) == 0) {
            tokens.add(random.nextBoolean() ? "+" : "-");
            term(deep);
        }
    }

    private void term(int deep) {
        one(deep);
        while (random.nextInt(4) == 0) {
            tokens.add("*");
            one(deep);
        }
    }

    private void one(int deep) {
        int pick = random.nextInt(10);
        if (deep > 0 && pick == 0) {
            tokens.add("-");
            one(deep - 1);
        } else if (deep > 0 && pick < 3) {
            tokens.add("(");
            either(deep - 1);
            tokens.add(")");
        } else if (pick < 6) {
            tokens.add("" + random.nextInt(random.nextInt(9) == 0 ? 10000 : 12));
        } else {
            tokens.add(NAMES[random.nextInt(NAMES.length)]);
        }
    }
}
