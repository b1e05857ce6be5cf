import java.util.ArrayDeque;
import java.util.ArrayList;
import java.util.Arrays;
import java.util.List;
import java.util.Map;
import java.util.TreeMap;
import java.util.function.IntPredicate;
import java.util.regex.Matcher;
import java.util.regex.Pattern;

/**
 * The document once more, written as plainly as can be, and in other ways than the class: KINDS are
 * classes, TEXTS are evaluated token by token, no STEP that was walked to is kept for another.
 */
final class Model {
    static final long NO = -(1L << 62);

    /** What a WALKER is told by, in thought. */
    static class Kind {
        int v, w, u, number;
        boolean yes;

        int lasts() {
            return v;
        }

        int pace() {
            return v;
        }

        boolean stopped() {
            return yes;
        }
    }

    static class Sailor extends Kind {
        @Override int lasts() {
            return super.lasts() + number;
        }

        @Override int pace() {
            return u == 0 ? super.pace() + super.pace() : super.pace();
        }

        @Override boolean stopped() {
            return yes && u > 5;
        }
    }

    static class Bride extends Kind {
        @Override int lasts() {
            return super.lasts() / 2;
        }

        @Override int pace() {
            return super.pace() + 2;
        }

        @Override boolean stopped() {
            return super.stopped() || u > 30;
        }
    }

    static class Deserter extends Sailor {
        @Override int lasts() {
            return w < 10 ? 0 : super.lasts();
        }

        @Override int pace() {
            return super.pace() + 3;
        }

        @Override boolean stopped() {
            return false;
        }
    }

    static class Bishop extends Bride {
        @Override int lasts() {
            return super.lasts() + w;
        }

        @Override int pace() {
            return 1;
        }
    }

    static class Dog extends Kind {
        @Override int lasts() {
            return 999;
        }

        @Override int pace() {
            return number;
        }

        @Override boolean stopped() {
            return u > 0;
        }
    }

    static Kind kind(int k) {
        return switch (k) {
            case 0 -> new Kind();
            case 1 -> new Sailor();
            case 2 -> new Bride();
            case 3 -> new Deserter();
            case 4 -> new Bishop();
            default -> new Dog();
        };
    }

    /** A WALKER and all that its DAYS are told by. */
    static final class One implements Cloneable {
        int kind, number, ties, told, step, worn, day;
        int[] heavy;
        List<String>[] text;

        int weight(boolean ofTold) {
            int sum = 0;
            for (int t = 0; t < 8; t++) {
                boolean tie = (ties & 1 << t) != 0;
                boolean isTold = (told & 1 << t) != 0;
                sum += tie && isTold == ofTold ? heavy[t] : 0;
            }
            return sum;
        }

        Kind as() {
            Kind k = Model.kind(kind);
            k.w = weight(true);
            k.u = weight(false);
            k.number = number;
            return k;
        }

        int value(int part) {
            Map<String, Integer> names = new TreeMap<>();
            names.put("told", weight(true));
            names.put("untold", weight(false));
            names.put("step", step);
            names.put("number", number);
            names.put("day", day);
            names.put("worn", worn);
            return new Value(text[part], names).whole();
        }

        int lasts() {
            Kind k = as();
            k.v = clip(value(0), 999);
            return clip(k.lasts(), 9999);
        }

        int pace() {
            Kind k = as();
            k.v = clip(value(1), 99);
            return clip(k.pace(), 99);
        }

        boolean stopped() {
            Kind k = as();
            k.yes = value(2) != 0;
            return k.stopped();
        }

        boolean socks() {
            return worn >= lasts();
        }

        /** A DAY: whether one goes on. */
        boolean pass() {
            boolean stays = stopped() || socks();
            int pace = pace();
            int left = lasts() - worn;
            if (!stays) {
                int go = pace < left ? pace : left;
                step = step + go > 999 ? 999 : step + go;
                worn = worn + go > 9999 ? 9999 : worn + go;
            }
            day++;
            return !stays;
        }

        One after(int n) {
            One one = copy();
            for (int i = 0; i < n; i++) {
                one.pass();
            }
            return one;
        }

        One copy() {
            try {
                return (One) super.clone();
            } catch (CloneNotSupportedException e) {
                throw new IllegalStateException(e);
            }
        }
    }

    static int clip(int v, int most) {
        return v < 0 ? 0 : v > most ? most : v;
    }

    /** The value of an E, from its TOKENS. */
    static final class Value {
        final List<String> tokens;
        final Map<String, Integer> names;
        int at = 0;

        Value(List<String> tokens, Map<String, Integer> names) {
            this.tokens = tokens;
            this.names = names;
        }

        int whole() {
            return binary(0);
        }

        boolean next(String... any) {
            return at < tokens.size() && Arrays.asList(any).contains(tokens.get(at));
        }

        int binary(int level) {
            String[][] signs = {{"or"}, {"and"}, {"<", "="}, {"+", "-"}, {"*"}};
            if (level == signs.length) {
                return one();
            }
            if (level == 2 && next("not")) {
                at++;
                return binary(2) == 0 ? 1 : 0;
            }
            int a = binary(level + 1);
            while (next(signs[level])) {
                String sign = tokens.get(at++);
                int b = binary(level + 1);
                long r = switch (sign) {
                    case "or" -> a != 0 || b != 0 ? 1 : 0;
                    case "and" -> a != 0 && b != 0 ? 1 : 0;
                    case "<" -> a < b ? 1 : 0;
                    case "=" -> a == b ? 1 : 0;
                    case "+" -> (long) a + b;
                    case "-" -> (long) a - b;
                    default -> (long) a * b;
                };
                a = (int) r;
            }
            return a;
        }

        int one() {
            String token = tokens.get(at++);
            if (token.equals("-")) {
                return (int) -(long) one();
            }
            if (token.equals("(")) {
                int v = binary(0);
                at++;
                return v;
            }
            return names.containsKey(token) ? names.get(token) : Integer.parseInt(token);
        }
    }

    private static final Pattern TOKEN = Pattern.compile("[a-z]+|[0-9]+|[();+\\-*<=]");
    private static final List<String> NAMES = List.of("told", "untold", "step", "number", "day", "worn");
    private static final List<String> KEYS = List.of("lasts", "paces", "stops");

    /** Reads a tape by what may stand next and a row of what is open: three lists, or a fault's place. */
    static Object read(String tape) {
        List<List<String>> parts = new ArrayList<>();
        List<String> part = null;
        ArrayDeque<String> open = new ArrayDeque<>();
        ArrayDeque<Boolean> comparedAround = new ArrayDeque<>();
        boolean compared = false;
        boolean wantsOne = false;
        boolean notMayStand = false;
        Matcher matcher = TOKEN.matcher(tape);
        int at = 0;
        while (true) {
            while (at < tape.length() && (tape.charAt(at) == ' ' || tape.charAt(at) == '\n')) {
                at++;
            }
            if (at == tape.length()) {
                return part == null && parts.size() == 3 ? parts : at;
            }
            matcher.region(at, tape.length());
            if (!matcher.lookingAt()) {
                return at;
            }
            String token = matcher.group();
            boolean isAmount = Character.isDigit(token.charAt(0)) && token.length() <= 4;
            boolean isOne = isAmount || NAMES.contains(token);
            if (part == null) {
                if (parts.size() == 3 || !token.equals(KEYS.get(parts.size()))) {
                    return at;
                }
                part = new ArrayList<>();
                wantsOne = true;
                notMayStand = true;
                compared = false;
                at = matcher.end();
                continue;
            }
            if (wantsOne) {
                if (isOne) {
                    wantsOne = false;
                    closeAll(open, "-");
                } else if (token.equals("-") || token.equals("(") || token.equals("not") && notMayStand) {
                    if (open.size() == 5) {
                        return at;
                    }
                    open.push(token);
                    notMayStand = !token.equals("-");
                    if (token.equals("(")) {
                        comparedAround.push(compared);
                        compared = false;
                    }
                } else {
                    return at;
                }
            } else if ("*+-".contains(token)) {
                wantsOne = true;
                notMayStand = false;
            } else if ("<=".contains(token)) {
                if (compared) {
                    return at;
                }
                compared = true;
                wantsOne = true;
                notMayStand = false;
            } else if (token.equals("and") || token.equals("or")) {
                closeAll(open, "not");
                compared = false;
                wantsOne = true;
                notMayStand = true;
            } else if (token.equals(")")) {
                closeAll(open, "not");
                if (open.isEmpty()) {
                    return at;
                }
                open.pop();
                compared = comparedAround.pop();
                closeAll(open, "-");
            } else if (token.equals(";")) {
                closeAll(open, "not");
                if (!open.isEmpty()) {
                    return at;
                }
                parts.add(part);
                part = null;
                at = matcher.end();
                continue;
            } else {
                return at;
            }
            part.add(token);
            at = matcher.end();
        }
    }

    private static void closeAll(ArrayDeque<String> open, String token) {
        while (!open.isEmpty() && open.peek().equals(token)) {
            open.pop();
        }
    }

    // ---- all that an object keeps

    private int[] heavy = {10, 10, 10, 10, 10, 10, 10, 10};
    private int day = 0;
    private List<One> ones = new ArrayList<>();
    private final List<List<String>[]> texts = new ArrayList<>();
    private int rule = 0;
    private final StringBuilder tape = new StringBuilder();
    private Model image = null;
    private final Object[] sheets = new Object[4];

    Model() {
        addText(read("lasts told * 3 + 5 ; paces 10 - untold ; stops 50 < untold ;"));
    }

    @SuppressWarnings({"unchecked", "rawtypes"})
    private void addText(Object parts) {
        texts.add((List[]) ((List) parts).toArray(new List[3]));
    }

    private One look(int one) {
        One o = ones.get(one).copy();
        o.day = day;
        o.heavy = heavy.clone();
        o.text = texts.get(rule);
        return o;
    }

    private boolean isOne(int one) {
        return one >= 0 && one < ones.size();
    }

    private static boolean in(int v, int most) {
        return v >= 0 && v <= most;
    }

    int set(int what, int of, int v) {
        int was = what > 6 ? -2 : told(of, what);
        int[] most = {999, 99, 9, 255, 255, 999, 9999};
        if (was < 0 || !in(v, most[what])) {
            return -2;
        }
        switch (what) {
            case 0 -> day = v;
            case 1 -> heavy[of] = v;
            case 2 -> ones.get(of).number = v;
            case 3 -> ones.get(of).ties = v;
            case 4 -> ones.get(of).told = v;
            case 5 -> ones.get(of).step = v;
            default -> ones.get(of).worn = v;
        }
        return was;
    }

    int walker(int kind, int number, int ties) {
        if (!in(kind, 5) || !in(number, 9) || !in(ties, 255)) {
            return -2;
        }
        if (ones.size() == 6) {
            return -4;
        }
        One one = new One();
        one.kind = kind;
        one.number = number;
        one.ties = ties;
        ones.add(one);
        return ones.size() - 1;
    }

    int told(int of, int what) {
        if (what == 0) {
            return day;
        }
        if (what == 1) {
            return in(of, 7) ? heavy[of] : -2;
        }
        if (!in(what, 13) || !isOne(of)) {
            return -2;
        }
        One one = look(of);
        return switch (what) {
            case 2 -> one.number;
            case 3 -> one.ties;
            case 4 -> one.told;
            case 5 -> one.step;
            case 6 -> one.worn;
            case 7 -> one.kind;
            case 8 -> one.weight(true);
            case 9 -> one.weight(false);
            case 10 -> one.lasts();
            case 11 -> one.pace();
            case 12 -> one.stopped() ? 1 : 0;
            default -> one.socks() ? 1 : 0;
        };
    }

    int feed(int letter) {
        if (!in(letter, 255)) {
            return -2;
        }
        if (tape.length() == 160) {
            return -4;
        }
        return tape.append((char) letter).length();
    }

    int text() {
        if (texts.size() == 6) {
            return -4;
        }
        Object read = read(tape.toString());
        tape.setLength(0);
        if (read instanceof Integer place) {
            return -100 - place;
        }
        addText(read);
        return texts.size() - 1;
    }

    int force(int text) {
        if (!in(text, texts.size() - 1)) {
            return -2;
        }
        int was = rule;
        rule = text;
        return was;
    }

    int day() {
        if (day == 999) {
            return -3;
        }
        int went = 0;
        for (int i = 0; i < ones.size(); i++) {
            One one = look(i);
            went += one.pass() ? 1 : 0;
            ones.get(i).step = one.step;
            ones.get(i).worn = one.worn;
        }
        day++;
        return went;
    }

    int run(int one, int n, int what) {
        if (!isOne(one) || !in(n, 40) || !in(what, 3)) {
            return -2;
        }
        One o = look(one);
        int socks = -1;
        int stays = -1;
        for (int i = 0; i < n; i++) {
            if (!o.pass() && stays < 0) {
                stays = i;
            }
            if (o.socks() && socks < 0) {
                socks = i;
            }
        }
        return new int[] {o.step, socks, stays, o.worn}[what];
    }

    int mend(int one) {
        return set(6, one, 0);
    }

    private List<Integer> subsets(int ties) {
        List<Integer> sets = new ArrayList<>();
        for (int bits = 0; bits < 256; bits++) {
            if ((bits | ties) == ties) {
                sets.add(bits);
            }
        }
        return sets;
    }

    private One tell(int one, int bits) {
        One o = look(one);
        o.told = bits;
        return o;
    }

    int far(int one, int n, int what) {
        if (!isOne(one) || !in(n, 40) || !in(what, 1)) {
            return -2;
        }
        List<Integer> sets = subsets(ones.get(one).ties);
        int[] steps = new int[256];
        for (int bits : sets) {
            steps[bits] = tell(one, bits).after(n).step;
        }
        sets.sort((a, b) -> {
            int byStep = steps[b] - steps[a];
            int byWeight = tell(one, a).weight(true) - tell(one, b).weight(true);
            return byStep != 0 ? byStep : byWeight != 0 ? byWeight : a - b;
        });
        return what == 0 ? sets.get(0) : steps[sets.get(0)];
    }

    int least(int one, int k, int what) {
        if (!isOne(one) || !in(k, 999) || !in(what, 1)) {
            return -2;
        }
        List<Integer> sets = subsets(ones.get(one).ties);
        sets.removeIf(bits -> tell(one, bits).after(40).step < k);
        if (sets.isEmpty()) {
            return -1;
        }
        sets.sort((a, b) -> {
            int byWeight = tell(one, a).weight(true) - tell(one, b).weight(true);
            return byWeight != 0 ? byWeight : a - b;
        });
        return what == 0 ? sets.get(0) : tell(one, sets.get(0)).weight(true);
    }

    int heaviest(int thing, int one, int k) {
        if (!in(thing, 7) || !isOne(one) || !in(k, 999)) {
            return -2;
        }
        int most = -1;
        for (int v = 0; v < 100; v++) {
            One o = look(one);
            o.heavy[thing] = v;
            most = o.after(40).step >= k ? v : most;
        }
        return most;
    }

    int away(int k, int what) {
        if (!in(k, 999) || !in(what, 1)) {
            return -2;
        }
        List<One> all = new ArrayList<>();
        for (int i = 0; i < ones.size(); i++) {
            all.add(look(i));
        }
        for (int n = 0; n <= 40; n++) {
            for (int i = 0; i < all.size(); i++) {
                if (all.get(i).step >= k) {
                    return what == 0 ? i : n;
                }
            }
            for (One one : all) {
                one.pass();
            }
        }
        return -1;
    }

    private int together(int n, int[] weights) {
        int sum = 0;
        for (int i = 0; i < ones.size(); i++) {
            One o = look(i);
            o.heavy = weights;
            sum += o.after(n).step;
        }
        return sum;
    }

    int keeper(int n, int what) {
        if (!in(n, 40) || !in(what, 1)) {
            return -2;
        }
        int[] sums = new int[8];
        for (int t = 0; t < 8; t++) {
            int[] weights = heavy.clone();
            weights[t] = 0;
            sums[t] = together(n, weights);
        }
        int most = Arrays.stream(sums).max().getAsInt();
        if (most <= together(n, heavy)) {
            return what == 0 ? -1 : together(n, heavy);
        }
        int first = 0;
        while (sums[first] != most) {
            first++;
        }
        return what == 0 ? first : most;
    }

    int spare(int one, int n) {
        if (!isOne(one) || !in(n, 40)) {
            return -2;
        }
        int spared = 0;
        One now = look(one);
        for (int t = 0; t < 8; t++) {
            int b = 1 << t;
            if ((now.ties & now.told & b) == b && tell(one, now.told - b).after(n).step >= now.after(n).step) {
                spared += b;
            }
        }
        return spared;
    }

    private static int length(Object row) {
        return java.lang.reflect.Array.getLength(row);
    }

    private static int item(Object row, int i) {
        return ((Number) java.lang.reflect.Array.get(row, i)).intValue();
    }

    private static int otherwise(Object row, One one) {
        One walks = one.copy();
        for (int i = 0; i < length(row); i++) {
            walks.pass();
            if (walks.step != item(row, i)) {
                return i;
            }
        }
        return -1;
    }

    private static int bits(int many, IntPredicate is) {
        int bits = 0;
        for (int i = 0; i < many; i++) {
            bits += is.test(i) ? 1 << i : 0;
        }
        return bits;
    }

    int tells(int sheet, int one, int what) {
        if (!in(sheet, 3) || !isOne(one) || !in(what, 7)) {
            return -2;
        }
        Object row = sheets[sheet];
        if (row == null) {
            return -11;
        }
        List<Integer> sets = subsets(ones.get(one).ties);
        sets.removeIf(b -> what < 3 || what > 4 || otherwise(row, tell(one, b)) >= 0);
        List<Integer> steps = new ArrayList<>();
        for (int s = 0; s < 1000 && what > 5; s++) {
            One o = look(one);
            o.step = s;
            if (otherwise(row, o) < 0) {
                steps.add(s);
            }
        }
        return switch (what) {
            case 0 -> otherwise(row, look(one));
            case 1 -> bits(6, k -> {
                One o = look(one);
                o.kind = k;
                return otherwise(row, o) < 0;
            });
            case 2 -> bits(10, k -> {
                One o = look(one);
                o.number = k;
                return otherwise(row, o) < 0;
            });
            case 3 -> sets.size();
            case 4 -> sets.isEmpty() ? -1 : sets.get(0);
            case 5 -> bits(texts.size(), k -> {
                One o = look(one);
                o.text = texts.get(k);
                return otherwise(row, o) < 0;
            });
            case 6 -> steps.size();
            default -> steps.isEmpty() ? -1 : steps.get(0);
        };
    }

    int film(int sheet, int one, int n) {
        if (!in(sheet, 3) || !isOne(one) || !in(n, 40)) {
            return -2;
        }
        short[] row = new short[n];
        for (int i = 0; i < n; i++) {
            row[i] = (short) look(one).after(i + 1).step;
        }
        sheets[sheet] = row;
        return n;
    }

    private int[] drawnWeights(int seed) {
        int[] weights = new int[8];
        long z = seed;
        for (int t = 0; t < 8; t++) {
            z = (int) (z * 1103515245L + 12345L);
            weights[t] = (int) ((z & 0xffffffffL) >> 9) % 30;
        }
        return weights;
    }

    int drawn(int seed, int n) {
        return in(n, 40) ? together(n, drawnWeights(seed)) : -2;
    }

    long chance(int seed, int m, int part) {
        if (m < 1 || m > 20 || !in(part, 1)) {
            return NO;
        }
        int above = 0;
        for (int i = 0; i < m; i++) {
            boolean each = true;
            for (int j = 0; j < ones.size(); j++) {
                One o = look(j);
                o.heavy = drawnWeights((int) ((long) seed + i));
                boolean held = false;
                for (int d = 0; d < 10; d++) {
                    held |= !o.pass();
                    held |= o.socks();
                }
                each &= held;
            }
            above += each ? 1 : 0;
        }
        int by = m;
        while (above % by != 0 || m % by != 0) {
            by--;
        }
        return part == 0 ? above / by : m / by;
    }

    int image() {
        image = new Model();
        image.heavy = heavy.clone();
        image.day = day;
        image.rule = rule;
        for (One one : ones) {
            image.ones.add(one.copy());
        }
        return ones.size();
    }

    int back() {
        if (image == null) {
            return -3;
        }
        heavy = image.heavy.clone();
        day = image.day;
        rule = image.rule;
        ones = new ArrayList<>();
        for (One one : image.ones) {
            ones.add(one.copy());
        }
        return ones.size();
    }

    int count(int what) {
        int socks = 0;
        int stopped = 0;
        for (int i = 0; i < ones.size(); i++) {
            socks += look(i).socks() ? 1 : 0;
            stopped += look(i).stopped() ? 1 : 0;
        }
        int[] counts = {ones.size(), day, socks, stopped, texts.size(), tape.length(), rule};
        return in(what, 6) ? counts[what] : -2;
    }

    int sheet(int sheet, int sort, int n) {
        if (!in(sheet, 3) || sort < -1 || sort > 2) {
            return -2;
        }
        if (sort >= 0 && n > 40) {
            return -2;
        }
        if (sort >= 0 && n < 0) {
            return -14;
        }
        sheets[sheet] = switch (sort) {
            case -1 -> null;
            case 0 -> new byte[n];
            case 1 -> new short[n];
            default -> new int[n];
        };
        return 1;
    }

    int cell(int sheet, int i, int v) {
        if (!in(sheet, 3)) {
            return -2;
        }
        Object row = sheets[sheet];
        if (row == null) {
            return -11;
        }
        if (!in(i, length(row) - 1)) {
            return -12;
        }
        if (row instanceof byte[] bytes) {
            bytes[i] = (byte) v;
        } else if (row instanceof short[] shorts) {
            shorts[i] = (short) v;
        } else {
            ((int[]) row)[i] = v;
        }
        return 1;
    }

    int copy(int sheet, int i, int other, int j, int n) {
        if (!in(sheet, 3) || !in(other, 3)) {
            return -2;
        }
        Object from = sheets[sheet];
        Object to = sheets[other];
        if (from == null || to == null) {
            return -11;
        }
        if (from.getClass() != to.getClass()) {
            return -13;
        }
        if (i < 0 || j < 0 || n < 0 || (long) i + n > length(from) || (long) j + n > length(to)) {
            return -12;
        }
        int[] were = new int[n];
        for (int k = 0; k < n; k++) {
            were[k] = item(from, i + k);
        }
        for (int k = 0; k < n; k++) {
            cell(other, j + k, were[k]);
        }
        return n;
    }

    int walkers(int sheet, int sort, int from, int n) {
        if (!in(sheet, 3) || !in(sort, 2) || !in(n, 6)) {
            return -2;
        }
        Object row = sheets[sheet];
        Class<?>[] sorts = {byte[].class, short[].class, int[].class};
        if (row != null && row.getClass() != sorts[sort]) {
            return -13;
        }
        if (row == null) {
            return -11;
        }
        int came = 0;
        long at = from;
        for (int i = 0; i < n; i++) {
            int[] three = new int[3];
            for (int k = 0; k < 3; k++) {
                if (at < 0 || at >= length(row)) {
                    return -12;
                }
                three[k] = item(row, (int) at);
                at++;
            }
            came += walker(three[0], three[1], three[2]) >= 0 ? 1 : 0;
        }
        return came;
    }

    int taken(int walker, int k) {
        if (!in(k, 5)) {
            return -2;
        }
        if (!isOne(walker)) {
            return -11;
        }
        return kind(k).getClass().isInstance(kind(ones.get(walker).kind)) ? ones.get(walker).number : -13;
    }
}
