import java.util.Arrays;

/**
 * Walkers on a road, whose soles last as long as what they told the cobbler, and whom the
 * untold slows down. DOC.md says what each call answers; words in capitals are its Terms.
 */
public final class SolesByWhatIsTold {
    public static final int NONE = -1, BAD = -2, STATE = -3, FULL = -4;
    public static final long NO = -4611686018427387904L;

    private static final int NOTHING = -11, OUTSIDE = -12, UNLIKE = -13, NEGATIVE = -14;
    private static final int FIRST_FAULT = -100;

    private static final int THINGS = 8, SETS = 256, FIRST_HEAVY = 10, MOST_HEAVY = 99;
    private static final int WALKERS = 6, NUMBERS = 10, THREE = 3;
    private static final int LAST_DAY = 999, LAST_STEP = 999, LAST_WORN = 9999;
    private static final int MOST_DAYS = 40, CHANCE_DAYS = 10, MOST_SEEDS = 20;
    private static final int DRAWN_BELOW = 30;

    private static final int KINDS = 6, SAILOR = 1, BRIDE = 2, DESERTER = 3, BISHOP = 4, DOG = 5;
    /** Under which KIND each KIND stands. */
    private static final int[] UNDER = {NONE, 0, 0, SAILOR, BRIDE, 0};

    private static final int TAPE = 160, TEXTS = 6, MOST_OPEN = 5, MOST_DIGITS = 4;
    private static final int PARTS = 3, LASTS = 0, PACES = 1, STOPS = 2;
    private static final String FIRST_RULE =
        "lasts told * 3 + 5 ; paces 10 - untold ; stops 50 < untold ;";

    private static final int SHEETS = 4, SORTS = 3, BYTES = 0, SHORTS = 1, MISSING = -1, ROW = 40;

    // what set() and told() name
    private static final int DAY = 0, HEAVY = 1, NUMBER = 2, TIES = 3, TOLD = 4, STEP = 5, WORN = 6;

    // the steps of a read TEXT, each behind those that it works on; NAMES are 0 .. 5
    private static final int OP_TOLD = 0, OP_UNTOLD = 1, OP_STEP = 2, OP_NUMBER = 3, OP_DAY = 4, OP_WORN = 5;
    private static final int OP_NOT = 6, OP_NEGATE = 7;
    private static final int OP_ADD = 8, OP_TAKE = 9, OP_TIMES = 10, OP_LESS = 11, OP_LIKE = 12;
    private static final int OP_OR = 13, OP_AND = 14, OP_AMOUNT = 16;

    private final int[] weights = new int[THINGS];
    private final int[] otherWeights = new int[THINGS];
    private final Walker[] road = new Walker[WALKERS];
    private int walkerCount = 0;
    private int today = 0;
    private final Text[] texts = new Text[TEXTS];
    private int textCount = 1;
    private int rule = 0;
    private final Reader reader = new Reader();
    private final Thought thought;
    /** STEP by TOLD weight, as far as it was asked in this call. */
    private final int[] stepByWeight = new int[THINGS * MOST_HEAVY + 1];
    private final Image kept = new Image();
    private final Sheet[] sheets = new Sheet[SHEETS];

    public SolesByWhatIsTold() {
        Arrays.fill(weights, FIRST_HEAVY);
        for (int i = 0; i < WALKERS; i++) {
            road[i] = new Walker();
        }
        for (int i = 0; i < TEXTS; i++) {
            texts[i] = new Text();
        }
        for (int i = 0; i < SHEETS; i++) {
            sheets[i] = new Sheet();
        }
        for (int i = 0; i < FIRST_RULE.length(); i++) {
            reader.append(FIRST_RULE.charAt(i));
        }
        reader.readInto(texts[0]);
        thought = new Thought(texts[0]);
    }

    // ---- things, walkers

    public int set(int what, int of, int v) {
        if (!isKept(what) || !names(what, of) || !within(v, 0, mostOf(what))) {
            return BAD;
        }
        int was = valueOf(what, of);
        keep(what, of, v);
        return was;
    }

    public int walker(int kind, int number, int ties) {
        if (!within(kind, 0, KINDS - 1) || !within(number, 0, NUMBERS - 1) || !within(ties, 0, SETS - 1)) {
            return BAD;
        }
        if (walkerCount >= WALKERS) {
            return FULL;
        }
        road[walkerCount].comeAs(kind, number, ties);
        walkerCount++;
        return walkerCount - 1;
    }

    public int told(int of, int what) {
        if (!within(what, DAY, 13) || !names(what, of)) {
            return BAD;
        }
        if (isKept(what)) {
            return valueOf(what, of);
        }
        Walker one = walkerAt(of);
        if (one == null) {
            return BAD;
        }
        think(one);
        switch (what) {
            case 7: return one.kind;
            case 8: return thought.toldWeight;
            case 9: return thought.untoldWeight;
            case 10: return thought.lasts();
            case 11: return thought.pace();
            case 12: return bit(thought.isStopped());
            default: return bit(thought.isInSocks());
        }
    }

    // ---- texts

    public int feed(int letter) {
        if (!within(letter, 0, 255)) {
            return BAD;
        }
        if (reader.size >= TAPE) {
            return FULL;
        }
        reader.append(letter);
        return reader.size;
    }

    public int text() {
        if (textCount >= TEXTS) {
            return FULL;
        }
        int fault = reader.readInto(texts[textCount]);
        if (fault != NONE) {
            return FIRST_FAULT - fault;
        }
        textCount++;
        return textCount - 1;
    }

    public int force(int text) {
        if (!within(text, 0, textCount - 1)) {
            return BAD;
        }
        int was = rule;
        rule = text;
        return was;
    }

    // ---- days

    public int day() {
        if (today >= LAST_DAY) {
            return STATE;
        }
        int went = 0;
        for (int i = 0; i < walkerCount; i++) {
            think(road[i]);
            went += bit(thought.passDay());
            road[i].step = thought.step;
            road[i].worn = thought.worn;
        }
        today++;
        return went;
    }

    public int run(int one, int n, int what) {
        Walker who = walkerAt(one);
        if (who == null || !isDays(n) || !within(what, 0, 3)) {
            return BAD;
        }
        think(who);
        switch (what) {
            case 0: return thought.stepBehind(n);
            case 1: return thought.firstInSocks(n);
            case 2: return thought.firstStay(n);
            default: return thought.wornBehind(n);
        }
    }

    public int mend(int one) {
        Walker who = walkerAt(one);
        if (who == null) {
            return BAD;
        }
        int was = who.worn;
        who.worn = 0;
        return was;
    }

    // ---- what would be best

    public int far(int one, int n, int what) {
        Walker who = walkerAt(one);
        if (who == null || !isDays(n) || !within(what, 0, 1)) {
            return BAD;
        }
        int best = 0;
        int bestStep = NONE;
        int bestWeight = 0;
        forgetSteps();
        for (int bits = 0; bits < SETS; bits++) {
            if (isPart(bits, who.ties)) {
                int step = stepIfTold(who, bits, n);
                int weight = thought.toldWeight;
                if (step > bestStep || step == bestStep && weight < bestWeight) {
                    best = bits;
                    bestStep = step;
                    bestWeight = weight;
                }
            }
        }
        return what == 0 ? best : bestStep;
    }

    public int least(int one, int k, int what) {
        Walker who = walkerAt(one);
        if (who == null || !within(k, 0, LAST_STEP) || !within(what, 0, 1)) {
            return BAD;
        }
        int best = NONE;
        int bestWeight = NONE;
        forgetSteps();
        for (int bits = 0; bits < SETS; bits++) {
            if (isPart(bits, who.ties) && stepIfTold(who, bits, MOST_DAYS) >= k) {
                int weight = thought.toldWeight;
                if (best == NONE || weight < bestWeight) {
                    best = bits;
                    bestWeight = weight;
                }
            }
        }
        return what == 0 ? best : bestWeight;
    }

    public int heaviest(int thing, int one, int k) {
        Walker who = walkerAt(one);
        if (!isThing(thing) || who == null || !within(k, 0, LAST_STEP)) {
            return BAD;
        }
        weighAsNow();
        for (int heavy = MOST_HEAVY; heavy >= 0; heavy--) {
            otherWeights[thing] = heavy;
            thinkOtherwise(who);
            if (thought.stepBehind(MOST_DAYS) >= k) {
                return heavy;
            }
        }
        return NONE;
    }

    public int away(int k, int what) {
        if (!within(k, 0, LAST_STEP) || !within(what, 0, 1)) {
            return BAD;
        }
        int first = NONE;
        int firstDays = NONE;
        for (int i = 0; i < walkerCount; i++) {
            think(road[i]);
            int days = thought.daysTill(k);
            if (days != NONE && (first == NONE || days < firstDays)) {
                first = i;
                firstDays = days;
            }
        }
        return what == 0 ? first : firstDays;
    }

    public int keeper(int n, int what) {
        if (!isDays(n) || !within(what, 0, 1)) {
            return BAD;
        }
        weighAsNow();
        int keeps = NONE;
        int most = stepsOfAll(n);
        for (int thing = 0; thing < THINGS; thing++) {
            weighAsNow();
            otherWeights[thing] = 0;
            int steps = stepsOfAll(n);
            if (steps > most) {
                keeps = thing;
                most = steps;
            }
        }
        return what == 0 ? keeps : most;
    }

    public int spare(int one, int n) {
        Walker who = walkerAt(one);
        if (who == null || !isDays(n)) {
            return BAD;
        }
        think(who);
        int step = thought.stepBehind(n);
        int spared = 0;
        for (int thing = 0; thing < THINGS; thing++) {
            if (has(who.ties & who.told, thing)) {
                thinkTold(who, who.told & ~(1 << thing));
                if (thought.stepBehind(n) >= step) {
                    spared |= 1 << thing;
                }
            }
        }
        return spared;
    }

    // ---- steps that were told

    public int tells(int sheet, int one, int what) {
        Sheet row = sheetAt(sheet);
        Walker who = walkerAt(one);
        if (row == null || who == null || !within(what, 0, 7)) {
            return BAD;
        }
        if (row.isMissing()) {
            return NOTHING;
        }
        switch (what) {
            case 0: think(who); return thought.firstOtherwise(row);
            case 1: return kindsBy(row, who);
            case 2: return numbersBy(row, who);
            case 3: return setsBy(row, who, false);
            case 4: return setsBy(row, who, true);
            case 5: return textsBy(row, who);
            case 6: return stepsBy(row, who, false);
            default: return stepsBy(row, who, true);
        }
    }

    public int film(int sheet, int one, int n) {
        Sheet row = sheetAt(sheet);
        Walker who = walkerAt(one);
        if (row == null || who == null || !isDays(n)) {
            return BAD;
        }
        row.becomeRow(SHORTS, n);
        think(who);
        for (int i = 0; i < n; i++) {
            thought.passDay();
            row.put(i, thought.step);
        }
        return n;
    }

    public int drawn(int seed, int n) {
        if (!isDays(n)) {
            return BAD;
        }
        draw(seed);
        return stepsOfAll(n);
    }

    public long chance(int seed, int m, int part) {
        if (!within(m, 1, MOST_SEEDS) || !within(part, 0, 1)) {
            return NO;
        }
        int above = 0;
        for (int i = 0; i < m; i++) {
            draw(seed + i);
            above += bit(eachIsHeldUp());
        }
        int by = commonDivisor(above, m);
        if (by < 1) {
            return NO;
        }
        return part == 0 ? above / by : m / by;
    }

    public int image() {
        kept.stands = true;
        kept.day = today;
        kept.rule = rule;
        kept.walkerCount = walkerCount;
        System.arraycopy(weights, 0, kept.weights, 0, THINGS);
        for (int i = 0; i < walkerCount; i++) {
            kept.road[i].become(road[i]);
        }
        return walkerCount;
    }

    public int back() {
        if (!kept.stands) {
            return STATE;
        }
        today = kept.day;
        rule = kept.rule;
        walkerCount = kept.walkerCount;
        System.arraycopy(kept.weights, 0, weights, 0, THINGS);
        for (int i = 0; i < walkerCount; i++) {
            road[i].become(kept.road[i]);
        }
        return walkerCount;
    }

    public int count(int what) {
        switch (what) {
            case 0: return walkerCount;
            case 1: return today;
            case 2: return countInSocks();
            case 3: return countStopped();
            case 4: return textCount;
            case 5: return reader.size;
            case 6: return rule;
            default: return BAD;
        }
    }

    // ---- the host

    public int sheet(int sheet, int sort, int n) {
        Sheet row = sheetAt(sheet);
        if (row == null || !within(sort, MISSING, SORTS - 1)) {
            return BAD;
        }
        if (sort == MISSING) {
            row.becomeRow(MISSING, 0);
            return 1;
        }
        if (n > ROW) {
            return BAD;
        }
        if (n < 0) {
            return NEGATIVE;
        }
        row.becomeRow(sort, n);
        return 1;
    }

    public int cell(int sheet, int i, int v) {
        Sheet row = sheetAt(sheet);
        if (row == null) {
            return BAD;
        }
        if (row.isMissing()) {
            return NOTHING;
        }
        if (!row.holds(i, 1)) {
            return OUTSIDE;
        }
        row.put(i, v);
        return 1;
    }

    public int copy(int sheet, int i, int other, int j, int n) {
        Sheet from = sheetAt(sheet);
        Sheet to = sheetAt(other);
        if (from == null || to == null) {
            return BAD;
        }
        if (from.isMissing() || to.isMissing()) {
            return NOTHING;
        }
        if (from.sort != to.sort) {
            return UNLIKE;
        }
        if (!from.holds(i, n) || !to.holds(j, n)) {
            return OUTSIDE;
        }
        System.arraycopy(from.items, i, to.items, j, n);
        return n;
    }

    public int walkers(int sheet, int sort, int from, int n) {
        Sheet row = sheetAt(sheet);
        if (row == null || !within(sort, 0, SORTS - 1) || !within(n, 0, WALKERS)) {
            return BAD;
        }
        // a missing SHEET may be taken for one of any sort
        if (!row.isMissing() && row.sort != sort) {
            return UNLIKE;
        }
        if (row.isMissing()) {
            return NOTHING;
        }
        int came = 0;
        for (int i = 0; i < n; i++) {
            if (!row.holds(from, THREE * (i + 1))) {
                return OUTSIDE;
            }
            int at = from + THREE * i;
            came += bit(walker(row.items[at], row.items[at + 1], row.items[at + 2]) >= 0);
        }
        return came;
    }

    public int taken(int walker, int k) {
        if (!within(k, 0, KINDS - 1)) {
            return BAD;
        }
        Walker one = walkerAt(walker);
        if (one == null) {
            return NOTHING;
        }
        return isUnder(one.kind, k) ? one.number : UNLIKE;
    }

    // ---- bounds

    private static boolean within(int v, int least, int most) {
        return v >= least && v <= most;
    }

    private static int bounded(int v, int most) {
        return Math.max(0, Math.min(most, v));
    }

    private static int bit(boolean yes) {
        return yes ? 1 : 0;
    }

    private static boolean has(int bits, int i) {
        return (bits >> i & 1) == 1;
    }

    private static boolean isPart(int bits, int of) {
        return (bits & ~of) == 0;
    }

    private static boolean isDays(int n) {
        return within(n, 0, MOST_DAYS);
    }

    private static boolean isThing(int thing) {
        return within(thing, 0, THINGS - 1);
    }

    private static boolean isUnder(int kind, int k) {
        int above = kind;
        for (int i = 0; i < KINDS && above >= 0 && above < UNDER.length; i++) {
            if (above == k) {
                return true;
            }
            above = UNDER[above];
        }
        return false;
    }

    private static int commonDivisor(int a, int b) {
        int divisor = b;
        int rest = a;
        for (int i = 0; i < MOST_SEEDS && rest > 0; i++) {
            int next = divisor % rest;
            divisor = rest;
            rest = next;
        }
        return divisor;
    }

    private Walker walkerAt(int one) {
        return one >= 0 && one < walkerCount ? road[one] : null;
    }

    private Sheet sheetAt(int sheet) {
        return sheet >= 0 && sheet < SHEETS ? sheets[sheet] : null;
    }

    // ---- what set() changes

    private static boolean isKept(int what) {
        return within(what, DAY, WORN);
    }

    private boolean names(int what, int of) {
        if (what == DAY) {
            return true;
        }
        return what == HEAVY ? isThing(of) : walkerAt(of) != null;
    }

    private static int mostOf(int what) {
        switch (what) {
            case DAY: return LAST_DAY;
            case HEAVY: return MOST_HEAVY;
            case NUMBER: return NUMBERS - 1;
            case TIES: return SETS - 1;
            case TOLD: return SETS - 1;
            case STEP: return LAST_STEP;
            default: return LAST_WORN;
        }
    }

    private int valueOf(int what, int of) {
        if (what == DAY) {
            return today;
        }
        if (what == HEAVY) {
            return isThing(of) ? weights[of] : BAD;
        }
        Walker one = walkerAt(of);
        if (one == null) {
            return BAD;
        }
        switch (what) {
            case NUMBER: return one.number;
            case TIES: return one.ties;
            case TOLD: return one.told;
            case STEP: return one.step;
            default: return one.worn;
        }
    }

    private void keep(int what, int of, int v) {
        if (what == DAY) {
            today = v;
        } else if (what == HEAVY) {
            if (isThing(of)) {
                weights[of] = v;
            }
        } else {
            keepOfWalker(what, walkerAt(of), v);
        }
    }

    private static void keepOfWalker(int what, Walker one, int v) {
        if (one == null) {
            return;
        }
        switch (what) {
            case NUMBER: one.number = v; break;
            case TIES: one.ties = v; break;
            case TOLD: one.told = v; break;
            case STEP: one.step = v; break;
            default: one.worn = v; break;
        }
    }

    // ---- thinking

    /** All as it is now. */
    private void think(Walker one) {
        thinkTold(one, one.told);
    }

    /** As it is now, but for what is TOLD. */
    private void thinkTold(Walker one, int told) {
        thought.startAs(one, texts[rule], today);
        thought.weigh(one.ties, told, weights);
    }

    /** As it is now, but for the weights. */
    private void thinkOtherwise(Walker one) {
        thought.startAs(one, texts[rule], today);
        thought.weigh(one.ties, one.told, otherWeights);
    }

    private void weighAsNow() {
        System.arraycopy(weights, 0, otherWeights, 0, THINGS);
    }

    private void draw(int seed) {
        int z = seed;
        for (int thing = 0; thing < THINGS; thing++) {
            z = z * 1103515245 + 12345;
            otherWeights[thing] = (z >>> 9) % DRAWN_BELOW;
        }
    }

    private int stepsOfAll(int n) {
        int steps = 0;
        for (int i = 0; i < walkerCount; i++) {
            thinkOtherwise(road[i]);
            steps += thought.stepBehind(n);
        }
        return steps;
    }

    private boolean eachIsHeldUp() {
        for (int i = 0; i < walkerCount; i++) {
            thinkOtherwise(road[i]);
            if (!thought.isHeldUp(CHANCE_DAYS)) {
                return false;
            }
        }
        return true;
    }

    private void forgetSteps() {
        Arrays.fill(stepByWeight, NONE);
    }

    /** Sets of like weight come to like STEPS, so each weight is walked once. */
    private int stepIfTold(Walker one, int bits, int n) {
        thinkTold(one, bits);
        int weight = thought.toldWeight;
        if (weight < 0 || weight >= stepByWeight.length) {
            return thought.stepBehind(n);
        }
        if (stepByWeight[weight] == NONE) {
            stepByWeight[weight] = thought.stepBehind(n);
        }
        return stepByWeight[weight];
    }

    private int countInSocks() {
        int many = 0;
        for (int i = 0; i < walkerCount; i++) {
            think(road[i]);
            many += bit(thought.isInSocks());
        }
        return many;
    }

    private int countStopped() {
        int many = 0;
        for (int i = 0; i < walkerCount; i++) {
            think(road[i]);
            many += bit(thought.isStopped());
        }
        return many;
    }

    // ---- reading steps back

    private int kindsBy(Sheet row, Walker who) {
        int kinds = 0;
        for (int kind = 0; kind < KINDS; kind++) {
            think(who);
            thought.kind = kind;
            kinds |= bit(thought.firstOtherwise(row) == NONE) << kind;
        }
        return kinds;
    }

    private int numbersBy(Sheet row, Walker who) {
        int numbers = 0;
        for (int number = 0; number < NUMBERS; number++) {
            think(who);
            thought.number = number;
            numbers |= bit(thought.firstOtherwise(row) == NONE) << number;
        }
        return numbers;
    }

    private int setsBy(Sheet row, Walker who, boolean asksLeast) {
        int many = 0;
        int first = NONE;
        for (int bits = 0; bits < SETS; bits++) {
            if (isPart(bits, who.ties)) {
                thinkTold(who, bits);
                if (thought.firstOtherwise(row) == NONE) {
                    many++;
                    first = first == NONE ? bits : first;
                }
            }
        }
        return asksLeast ? first : many;
    }

    private int textsBy(Sheet row, Walker who) {
        int bits = 0;
        for (int text = 0; text < textCount; text++) {
            think(who);
            thought.rule = texts[text];
            bits |= bit(thought.firstOtherwise(row) == NONE) << text;
        }
        return bits;
    }

    private int stepsBy(Sheet row, Walker who, boolean asksLeast) {
        int many = 0;
        int first = NONE;
        for (int step = 0; step <= LAST_STEP; step++) {
            think(who);
            thought.step = step;
            if (thought.firstOtherwise(row) == NONE) {
                many++;
                first = first == NONE ? step : first;
            }
        }
        return asksLeast ? first : many;
    }

    /** A WALKER as the road knows it. */
    private static final class Walker {
        int kind;
        int number;
        int ties;
        int told;
        int step;
        int worn;

        void comeAs(int itsKind, int itsNumber, int itsTies) {
            kind = itsKind;
            number = itsNumber;
            ties = itsTies;
            told = 0;
            step = 0;
            worn = 0;
        }

        void become(Walker other) {
            kind = other.kind;
            number = other.number;
            ties = other.ties;
            told = other.told;
            step = other.step;
            worn = other.worn;
        }
    }

    /** AN IMAGE. */
    private static final class Image {
        boolean stands = false;
        int day = 0;
        int rule = 0;
        int walkerCount = 0;
        final int[] weights = new int[THINGS];
        final Walker[] road = new Walker[WALKERS];

        Image() {
            for (int i = 0; i < WALKERS; i++) {
                road[i] = new Walker();
            }
        }
    }

    /** A SHEET; its row is used again, whatever it becomes. */
    private static final class Sheet {
        final int[] items = new int[ROW];
        int sort = MISSING;
        int size = 0;

        boolean isMissing() {
            return sort == MISSING;
        }

        void becomeRow(int itsSort, int n) {
            sort = itsSort;
            size = bounded(n, ROW);
            Arrays.fill(items, 0);
        }

        boolean holds(int i, int n) {
            // i + n might wrap
            return i >= 0 && n >= 0 && n <= size && i <= size - n;
        }

        void put(int i, int v) {
            if (i >= 0 && i < size) {
                items[i] = sort == BYTES ? (byte) v : sort == SHORTS ? (short) v : v;
            }
        }
    }

    /** A TEXT as it was read: the steps of its three E, one behind the other. */
    private static final class Text {
        final int[] steps = new int[TAPE];
        final int[] ends = new int[PARTS];
        int size = 0;
        boolean tellsDay = false;

        void clear() {
            size = 0;
            tellsDay = false;
        }

        void append(int step) {
            if (size < steps.length) {
                steps[size] = step;
                size++;
                tellsDay = tellsDay || step == OP_DAY;
            }
        }

        void endPart(int part) {
            if (part >= 0 && part < ends.length) {
                ends[part] = size;
            }
        }

        int startOf(int part) {
            return part > 0 && part <= ends.length ? ends[part - 1] : 0;
        }

        int endOf(int part) {
            return part >= 0 && part < ends.length ? ends[part] : 0;
        }
    }

    /** THE TAPE, and how it is read. The first FAULT is kept; behind it nothing is taken. */
    private static final class Reader {
        private static final int BROKEN = 0, END = 1, AMOUNT = 2, NAME = 3;
        private static final int KEY_LASTS = 4, KEY_OR = 7, KEY_AND = 8, KEY_NOT = 9;
        private static final int OPEN = 10, CLOSE = 11, SEMICOLON = 12, PLUS = 13, MINUS = 14;
        private static final int STAR = 15, LESS = 16, LIKE = 17;

        private final int[] bytes = new int[TAPE];
        int size = 0;
        private int at;
        /** Where the TOKEN begins, what it is, and which NUMBER or NAME. */
        private int start;
        private int token;
        private int amount;
        private int open;
        private int fault;
        private Text into;

        void append(int letter) {
            if (size < bytes.length) {
                bytes[size] = letter;
                size++;
            }
        }

        /** Reads THE TAPE and empties it: the place of the FAULT, or NONE. */
        int readInto(Text text) {
            into = text;
            into.clear();
            at = 0;
            open = 0;
            fault = NONE;
            take();
            for (int part = 0; part < PARTS; part++) {
                expect(KEY_LASTS + part);
                readEither();
                into.endPart(part);
                expect(SEMICOLON);
            }
            if (token != END) {
                fail();
            }
            size = 0;
            return fault;
        }

        private void fail() {
            if (fault == NONE) {
                fault = start;
            }
            token = BROKEN;
        }

        private void expect(int wanted) {
            if (token == wanted) {
                take();
            } else {
                fail();
            }
        }

        /** Takes a ( , not or - , if one more may be open. */
        private boolean takeOpening() {
            if (open >= MOST_OPEN) {
                fail();
                return false;
            }
            open++;
            take();
            return true;
        }

        private void readEither() {
            readBoth();
            for (int i = 0; i < TAPE && token == KEY_OR; i++) {
                take();
                readBoth();
                into.append(OP_OR);
            }
        }

        private void readBoth() {
            readNot();
            for (int i = 0; i < TAPE && token == KEY_AND; i++) {
                take();
                readNot();
                into.append(OP_AND);
            }
        }

        private void readNot() {
            if (token == KEY_NOT) {
                if (takeOpening()) {
                    readNot();
                    into.append(OP_NOT);
                    open--;
                }
                return;
            }
            readSum();
            if (token == LESS || token == LIKE) {
                int step = token == LESS ? OP_LESS : OP_LIKE;
                take();
                readSum();
                into.append(step);
            }
        }

        private void readSum() {
            readTerm();
            for (int i = 0; i < TAPE && (token == PLUS || token == MINUS); i++) {
                int step = token == PLUS ? OP_ADD : OP_TAKE;
                take();
                readTerm();
                into.append(step);
            }
        }

        private void readTerm() {
            readOne();
            for (int i = 0; i < TAPE && token == STAR; i++) {
                take();
                readOne();
                into.append(OP_TIMES);
            }
        }

        private void readOne() {
            if (token == AMOUNT) {
                into.append(OP_AMOUNT + amount);
                take();
            } else if (token == NAME) {
                into.append(amount);
                take();
            } else if (token == MINUS) {
                if (takeOpening()) {
                    readOne();
                    into.append(OP_NEGATE);
                    open--;
                }
            } else if (token == OPEN) {
                if (takeOpening()) {
                    readEither();
                    expect(CLOSE);
                    open--;
                }
            } else {
                fail();
            }
        }

        private void take() {
            while (at < size && isBlank(bytes[at])) {
                at++;
            }
            start = at;
            if (at >= size) {
                token = END;
            } else if (isLetter(bytes[at])) {
                takeWord();
            } else if (isDigit(bytes[at])) {
                takeAmount();
            } else {
                token = signOf(bytes[at]);
                at++;
            }
        }

        private void takeAmount() {
            amount = 0;
            while (at < size && isDigit(bytes[at])) {
                // of a NUMBER that is too long the value does not matter: it may wrap
                amount = amount * 10 + bytes[at] - '0';
                at++;
            }
            token = at - start > MOST_DIGITS ? BROKEN : AMOUNT;
        }

        private void takeWord() {
            while (at < size && isLetter(bytes[at])) {
                at++;
            }
            amount = spells("told") ? OP_TOLD
                : spells("untold") ? OP_UNTOLD
                : spells("step") ? OP_STEP
                : spells("number") ? OP_NUMBER
                : spells("day") ? OP_DAY
                : spells("worn") ? OP_WORN
                : NONE;
            token = amount != NONE ? NAME
                : spells("lasts") ? KEY_LASTS
                : spells("paces") ? KEY_LASTS + PACES
                : spells("stops") ? KEY_LASTS + STOPS
                : spells("or") ? KEY_OR
                : spells("and") ? KEY_AND
                : spells("not") ? KEY_NOT
                : BROKEN;
        }

        private boolean spells(String word) {
            if (at - start != word.length()) {
                return false;
            }
            for (int i = 0; i < word.length() && start + i < size; i++) {
                if (bytes[start + i] != word.charAt(i)) {
                    return false;
                }
            }
            return true;
        }

        private static boolean isBlank(int letter) {
            return letter == ' ' || letter == '\n';
        }

        private static boolean isLetter(int letter) {
            return letter >= 'a' && letter <= 'z';
        }

        private static boolean isDigit(int letter) {
            return letter >= '0' && letter <= '9';
        }

        private static int signOf(int letter) {
            switch (letter) {
                case '(': return OPEN;
                case ')': return CLOSE;
                case ';': return SEMICOLON;
                case '+': return PLUS;
                case '-': return MINUS;
                case '*': return STAR;
                case '<': return LESS;
                case '=': return LIKE;
                default: return BROKEN;
            }
        }
    }

    /** A WALKER in thought: DAYS that pass here leave the road as it is. */
    private static final class Thought {
        private static final int MOST_LASTS = 999, MOST_PACES = 99;
        /** The E and each ( in it leave at most five left sides waiting, and one at work. */
        private static final int STACK = 5 * (MOST_OPEN + 1) + 1;

        int kind;
        int number;
        int toldWeight;
        int untoldWeight;
        int step;
        int worn;
        int day;
        Text rule;
        private final int[] stack = new int[STACK];

        Thought(Text itsRule) {
            rule = itsRule;
        }

        void startAs(Walker one, Text itsRule, int itsDay) {
            kind = one.kind;
            number = one.number;
            step = one.step;
            worn = one.worn;
            day = itsDay;
            rule = itsRule;
        }

        void weigh(int ties, int told, int[] weights) {
            toldWeight = 0;
            untoldWeight = 0;
            for (int thing = 0; thing < weights.length; thing++) {
                if (has(ties & told, thing)) {
                    toldWeight += weights[thing];
                } else if (has(ties, thing)) {
                    untoldWeight += weights[thing];
                }
            }
        }

        int lasts() {
            return bounded(lastsByKind(bounded(valueOfPart(LASTS), MOST_LASTS)), LAST_WORN);
        }

        private int lastsByKind(int v) {
            switch (kind) {
                case SAILOR: return v + number;
                case BRIDE: return v / 2;
                case DESERTER: return toldWeight < 10 ? 0 : v + number;
                case BISHOP: return v / 2 + toldWeight;
                case DOG: return 999;
                default: return v;
            }
        }

        int pace() {
            return bounded(paceByKind(bounded(valueOfPart(PACES), MOST_PACES)), MOST_PACES);
        }

        private int paceByKind(int v) {
            int ofSailor = untoldWeight == 0 ? 2 * v : v;
            switch (kind) {
                case SAILOR: return ofSailor;
                case BRIDE: return v + 2;
                case DESERTER: return ofSailor + 3;
                case BISHOP: return 1;
                case DOG: return number;
                default: return v;
            }
        }

        boolean isStopped() {
            boolean yes = valueOfPart(STOPS) != 0;
            switch (kind) {
                case SAILOR: return yes && untoldWeight > 5;
                case BRIDE: return yes || untoldWeight > 30;
                case DESERTER: return false;
                case BISHOP: return yes || untoldWeight > 30;
                case DOG: return untoldWeight > 0;
                default: return yes;
            }
        }

        boolean isInSocks() {
            return worn >= lasts();
        }

        /** A DAY: whether one goes on (be it by a PACE of 0). */
        boolean passDay() {
            int lasts = lasts();
            boolean goes = worn < lasts && !isStopped();
            if (goes) {
                int steps = Math.min(pace(), lasts - worn);
                step = Math.min(LAST_STEP, step + steps);
                worn = Math.min(LAST_WORN, worn + steps);
            }
            day++;
            return goes;
        }

        int stepBehind(int n) {
            for (int i = 0; i < n; i++) {
                // only DAY is another one behind it, so who stays would stay ever after
                if (!passDay() && !rule.tellsDay) {
                    return step;
                }
            }
            return step;
        }

        int wornBehind(int n) {
            for (int i = 0; i < n; i++) {
                passDay();
            }
            return worn;
        }

        int firstInSocks(int n) {
            for (int i = 0; i < n; i++) {
                passDay();
                if (isInSocks()) {
                    return i;
                }
            }
            return NONE;
        }

        int firstStay(int n) {
            for (int i = 0; i < n; i++) {
                if (!passDay()) {
                    return i;
                }
            }
            return NONE;
        }

        /** Whether one stays in any of n DAYS, or is in SOCKS behind any. */
        boolean isHeldUp(int n) {
            for (int i = 0; i < n; i++) {
                if (!passDay() || isInSocks()) {
                    return true;
                }
            }
            return false;
        }

        /** Behind how many DAYS one is at STEP k or further; NONE. */
        int daysTill(int k) {
            for (int days = 0; days <= MOST_DAYS; days++) {
                if (step >= k) {
                    return days;
                }
                passDay();
            }
            return NONE;
        }

        /** The first item of the row that STEP is not behind its DAY; NONE: it is so of one. */
        int firstOtherwise(Sheet row) {
            int size = Math.min(row.size, row.items.length);
            for (int i = 0; i < size; i++) {
                passDay();
                if (step != row.items[i]) {
                    return i;
                }
            }
            return NONE;
        }

        private int valueOfPart(int part) {
            int[] steps = rule.steps;
            int end = Math.min(rule.endOf(part), steps.length);
            int top = 0;
            for (int i = rule.startOf(part); i < end; i++) {
                int op = steps[i];
                if (op >= OP_ADD && op < OP_AMOUNT) {
                    if (top > 1) {
                        top--;
                        stack[top - 1] = ofTwo(op, stack[top - 1], stack[top]);
                    }
                } else if (op == OP_NOT || op == OP_NEGATE) {
                    if (top > 0) {
                        stack[top - 1] = op == OP_NOT ? bit(stack[top - 1] == 0) : -stack[top - 1];
                    }
                } else if (top < STACK) {
                    stack[top] = ofNone(op);
                    top++;
                }
            }
            return stack[0];
        }

        private int ofNone(int op) {
            switch (op) {
                case OP_TOLD: return toldWeight;
                case OP_UNTOLD: return untoldWeight;
                case OP_STEP: return step;
                case OP_NUMBER: return number;
                case OP_DAY: return day;
                case OP_WORN: return worn;
                default: return op - OP_AMOUNT;
            }
        }

        private static int ofTwo(int op, int a, int b) {
            switch (op) {
                case OP_ADD: return a + b;
                case OP_TAKE: return a - b;
                case OP_TIMES: return a * b;
                case OP_LESS: return a < b ? 1 : 0;
                case OP_LIKE: return a == b ? 1 : 0;
                case OP_OR: return a != 0 || b != 0 ? 1 : 0;
                default: return a != 0 && b != 0 ? 1 : 0;
            }
        }
    }
}
