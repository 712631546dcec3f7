import java.util.Arrays;

/**
 * Judges are matched to cases by least burden: see README.md, and ../shared/DOC.md for the promises.
 * Every row is made with the object and used again, so that no call makes one.
 */
public final class CourtMatcher {
    public static final int NONE = -1, BAD = -2, STATE = -3, FULL = -4, RING = -5;
    public static final long NO = -4611686018427387904L;

    private static final int NOTHING = -11, OUTSIDE = -12, UNLIKE = -13, NEGATIVE = -14;
    private static final int FAULTS = -100;

    private static final int SEATS = 8, PAIRS = 64, SETS = 256;
    private static final int TRAITS = 3, TRAIT_LIMIT = 999;
    private static final long LIMIT = 1000000000L;
    private static final int BARRED = 1, FORCED = 2;

    private static final int RULES = 4, TAPE_SIZE = 60;
    private static final int MOST_PARTS = 24, MOST_WEIGHT = 60, MOST_OPEN = 5, MOST_DIGITS = 4;
    /** Room for the 24 PARTS of a TEXT and for a leap behind each of its choices. */
    private static final int STEPS = 40;

    private static final int NUMBER = 1, OF_JUDGE = 2, OF_CASE = 3, OF_RULE = 4;
    private static final int NEG = 5, ABS = 6, ADD = 7, SUB = 8, MUL = 9;
    private static final int MIN = 10, MAX = 11, DIV = 12, MOD = 13, LESS = 14, LEAP = 15;

    private static final int END = 0, LEAF = 1, FUNCTION = 2, BROKEN = 3;

    private static final int BY_ZERO = 1, TOO_GREAT = 2;

    private static final int NEXT_ONES = 12, DAYS = 8, SHEETS = 4, SHEET_SIZE = 40;
    /** Each NEXT ONE that is found brings a part for each case at most. */
    private static final int MOST_WAITING = 1 + NEXT_ONES * SEATS;
    private static final int LONGS = 0, INTS = 1, BYTES = 2;

    private static final int FACTS = 6;
    /**
     * Each ROUND but the last marks a judge more or makes the GREATEST greater, and then the marks start anew:
     * 36 ROUNDS are the most that 8 judges and 8 cases can need.
     */
    private static final int MOST_ROUNDS = 64;

    private final Court court = new Court();
    private final Court kept = new Court();
    private boolean imaged = false;

    private final Tape tape = new Tape();
    private final Teller teller = new Teller();

    private final Plan plan = new Plan();
    private final Plan thought = new Plan();
    private final Greatest greatest = new Greatest();
    private final Rounds rounds = new Rounds();
    private final NextOnes nextOnes = new NextOnes();
    private final Diary diary = new Diary();
    private final int[] picks = new int[SEATS];

    /** Whether what has been reckoned of the court still fits it. */
    private boolean planned = false, shared = false, listed = false, heard = false;

    private final Sheet[] sheets = new Sheet[SHEETS];

    public CourtMatcher() {
        for (int i = 0; i < SHEETS; i++) {
            sheets[i] = new Sheet();
        }
    }

    // ---- judges, cases, burdens

    public int here(int side, int who, int is) {
        if (!isSide(side) || !isSeat(who) || is < 0 || is > 1) {
            return BAD;
        }
        changed();
        return court.seat(side, who, is);
    }

    public int trait(int side, int who, int which, int v) {
        if (!isSide(side) || !isSeat(who) || which < 0 || which >= TRAITS) {
            return BAD;
        }
        if (v < -TRAIT_LIMIT || v > TRAIT_LIMIT) {
            return BAD;
        }
        int place = (side * SEATS + who) * TRAITS + which;
        int was = court.traits[place];
        court.traits[place] = v;
        changed();
        return was;
    }

    public long tell(int judge, int matter, long v) {
        if (!isPair(judge, matter) || v < NONE || v > LIMIT) {
            return BAD;
        }
        court.own[judge * SEATS + matter] = v;
        changed();
        refreshPlan();
        return plan.least[0];
    }

    public long burden(int judge, int matter) {
        if (!isPair(judge, matter)) {
            return NO;
        }
        return teller.burdenOf(court, judge * SEATS + matter);
    }

    public int mark(int judge, int matter, int mark) {
        if (!isPair(judge, matter) || mark < 0 || mark > FORCED) {
            return BAD;
        }
        int pair = judge * SEATS + matter;
        if (mark == FORCED && court.forcedBeside(pair)) {
            return STATE;
        }
        int was = court.marks[pair];
        court.marks[pair] = mark;
        changed();
        return was;
    }

    public int open(int judge, int matter) {
        if (!isPair(judge, matter)) {
            return BAD;
        }
        refreshPlan();
        return plan.isOpen(judge, matter) ? 1 : 0;
    }

    // ---- rules

    public int feed(int letter) {
        if (letter < 0 || letter > 255) {
            return BAD;
        }
        return tape.add(letter) ? tape.size : FULL;
    }

    public int text(int rule) {
        if (!isRule(rule)) {
            return BAD;
        }
        int fault = tape.parse();
        tape.size = 0;
        if (fault != NONE) {
            return FAULTS - fault;
        }
        Rule was = court.rules[rule];
        court.rules[rule] = tape.draft;
        int refusal = court.refusalOf(rule);
        if (refusal != 0) {
            court.rules[rule] = was;
            return refusal;
        }
        tape.draft = was;
        changed();
        return court.rules[rule].parts;
    }

    public int empty(int rule) {
        if (!isRule(rule)) {
            return BAD;
        }
        int had = court.rules[rule].parts;
        court.rules[rule].clear();
        changed();
        return had;
    }

    public int told(int rule, int what) {
        if (!isRule(rule)) {
            return BAD;
        }
        switch (what) {
            case 0:
                return court.rules[rule].parts;
            case 1:
                court.weighRules();
                return court.weights[rule];
            case 2:
                return court.rules[rule].names();
            case 3:
                return court.namersOf(rule);
            case 4:
                return court.reachOf(rule);
            default:
                return BAD;
        }
    }

    public long value(int rule, int judge, int matter) {
        if (!isRule(rule) || !isPair(judge, matter)) {
            return NO;
        }
        return teller.tellBy(court, rule, judge * SEATS + matter);
    }

    public int why(int judge, int matter, int what) {
        if (!isPair(judge, matter) || what < 0 || what > 4) {
            return BAD;
        }
        boolean fails = teller.tellBy(court, 0, judge * SEATS + matter) == NO;
        if (!fails) {
            return what == 0 ? 0 : NONE;
        }
        switch (what) {
            case 0:
                return teller.failure;
            case 1:
                return teller.place;
            case 2:
                return teller.chain;
            case 3:
                return teller.last;
            default:
                return teller.ahead;
        }
    }

    // ---- rounds

    public int solve() {
        refreshPlan();
        rounds.make(plan, greatest);
        return rounds.made;
    }

    public long round(int i, int what) {
        if (what < 0 || what >= FACTS || i < 0 || i >= rounds.made) {
            return NO;
        }
        return rounds.facts[i * FACTS + what];
    }

    public long price(int i, int side, int who) {
        if (!isSide(side) || !isSeat(who) || i < 0 || i >= rounds.made) {
            return NO;
        }
        return rounds.prices[(i * 2 + side) * SEATS + who];
    }

    // ---- the best ones

    public long total() {
        refreshPlan();
        return plan.least[0];
    }

    public int many() {
        refreshPlan();
        return plan.ways[0];
    }

    public int best(int i, int matter) {
        if (!isSeat(matter)) {
            return BAD;
        }
        refreshPlan();
        if (i < 0 || i >= plan.ways[0]) {
            return STATE;
        }
        plan.pick(i, picks);
        return picks[matter];
    }

    public int kind(int judge, int matter) {
        if (!isPair(judge, matter)) {
            return BAD;
        }
        refreshShares();
        int all = plan.ways[0];
        if (all == 0) {
            return STATE;
        }
        int with = plan.shares[judge * SEATS + matter];
        if (with == 0) {
            return 0;
        }
        return with == all ? 2 : 1;
    }

    public long room(int judge, int matter, int what) {
        if (!isPair(judge, matter) || what < 0 || what > 1) {
            return NO;
        }
        refreshPlan();
        if (what == 0 && !plan.isOpen(judge, matter)) {
            return NO;
        }
        thought.take(plan);
        int bit = 1 << judge;
        if (what == 0) {
            thought.rows[matter] = bit;
        } else {
            thought.rows[matter] &= ~bit;
        }
        thought.weigh(false);
        return thought.least[0];
    }

    public long next(int i, int what) {
        if (i < 0 || i >= NEXT_ONES || what < NONE || what >= SEATS) {
            return NO;
        }
        refreshNextOnes();
        if (i >= nextOnes.found) {
            return NO;
        }
        return what == NONE ? nextOnes.totals[i] : nextOnes.judges[i * SEATS + what];
    }

    public long fair(int what) {
        if (what < 0 || what > 2) {
            return NO;
        }
        refreshPlan();
        thought.take(plan);
        thought.weigh(true);
        long heaviest = thought.least[0];
        if (heaviest == NO || what == 0) {
            return heaviest;
        }
        if (what == 2) {
            return plan.heavierThan(heaviest);
        }
        thought.closeHeavier(heaviest);
        thought.weigh(false);
        return thought.least[0];
    }

    // ---- days, what is short, what would be

    public long days(int n) {
        if (n < 1 || n > DAYS) {
            return NO;
        }
        refreshDiary();
        if (n > diary.heard) {
            return NO;
        }
        long sum = 0;
        for (int day = 0; day < n; day++) {
            sum += diary.totals[day];
        }
        return sum;
    }

    public int day(int day, int matter) {
        if (day < 0 || day >= DAYS || !isSeat(matter)) {
            return BAD;
        }
        refreshDiary();
        if (day >= diary.heard) {
            return STATE;
        }
        return diary.judges[day * SEATS + matter];
    }

    public int lack(int what) {
        if (what < 0 || what > 2) {
            return BAD;
        }
        refreshPlan();
        greatest.find(plan.rows, plan.matters);
        if (what == 0) {
            return plan.cases - greatest.size;
        }
        return what == 1 ? greatest.markedCases : greatest.markedJudges;
    }

    public long without(int side, int who) {
        if (!isSide(side) || !isSeat(who)) {
            return NO;
        }
        refreshPlan();
        thought.take(plan);
        if (side == 0) {
            thought.closeJudge(who);
        } else {
            thought.matters &= ~(1 << who);
        }
        thought.weigh(false);
        return thought.least[0];
    }

    // ---- what was told

    public long tells(int sheet, int what) {
        if (!isSheet(sheet) || what < 0 || what > 2) {
            return BAD;
        }
        if (sheets[sheet].sort == NONE) {
            return NOTHING;
        }
        refreshPlan();
        if (!plan.follows(sheets[sheet], picks)) {
            return STATE;
        }
        if (what == 0) {
            return plan.sumOf(picks);
        }
        if (what == 1) {
            refreshNextOnes();
            return nextOnes.placeOf(picks);
        }
        refreshShares();
        return plan.sharedOf(picks);
    }

    public int film(int sheet, int i) {
        if (!isSheet(sheet)) {
            return BAD;
        }
        refreshPlan();
        if (i < 0 || i >= plan.ways[0]) {
            return STATE;
        }
        plan.pick(i, picks);
        Sheet row = sheets[sheet];
        row.become(LONGS, plan.cases);
        for (int turn = 0; turn < plan.cases; turn++) {
            row.set(turn, picks[plan.order[turn]]);
        }
        return plan.cases;
    }

    public int image() {
        kept.take(court);
        imaged = true;
        refreshPlan();
        return plan.openPairs();
    }

    public int back() {
        if (!imaged) {
            return STATE;
        }
        court.take(kept);
        changed();
        refreshPlan();
        return plan.openPairs();
    }

    public int count(int what) {
        switch (what) {
            case 0:
                return Integer.bitCount(court.judges);
            case 1:
                return Integer.bitCount(court.matters);
            case 2:
                refreshPlan();
                return plan.openPairs();
            case 3:
                return court.marked(FORCED);
            case 4:
                return court.marked(BARRED);
            case 5:
                return court.owned();
            case 6:
                return rounds.made;
            case 7:
                return tape.size;
            default:
                return BAD;
        }
    }

    // ---- the host

    public int sheet(int sheet, int sort, int n) {
        if (!isSheet(sheet) || sort < NONE || sort > BYTES) {
            return BAD;
        }
        if (sort != NONE && n > SHEET_SIZE) {
            return BAD;
        }
        if (sort != NONE && n < 0) {
            return NEGATIVE;
        }
        sheets[sheet].become(sort, sort == NONE ? 0 : n);
        return 1;
    }

    public int put(int sheet, int i, long v) {
        if (!isSheet(sheet)) {
            return BAD;
        }
        Sheet row = sheets[sheet];
        if (row.sort == NONE) {
            return NOTHING;
        }
        if (!row.holds(i, 1)) {
            return OUTSIDE;
        }
        row.set(i, v);
        return 1;
    }

    public long item(int sheet, int i) {
        if (!isSheet(sheet)) {
            return NO;
        }
        Sheet row = sheets[sheet];
        return row.sort != NONE && row.holds(i, 1) ? row.items[i] : NO;
    }

    public int copy(int sheet, int i, int other, int j, int n) {
        if (!isSheet(sheet) || !isSheet(other)) {
            return BAD;
        }
        Sheet from = sheets[sheet];
        Sheet to = sheets[other];
        if (from.sort == NONE || to.sort == NONE) {
            return NOTHING;
        }
        if (from.sort != to.sort) {
            return UNLIKE;
        }
        if (!from.holds(i, n) || !to.holds(j, n)) {
            return OUTSIDE;
        }
        System.arraycopy(from.items, i, to.items, j, n);
        return n;
    }

    public int lay(int sheet, int judge, int sort, int from, int n) {
        if (!isSheet(sheet) || !isSeat(judge) || sort < LONGS || sort > BYTES || n < 1 || n > SEATS) {
            return BAD;
        }
        Sheet row = sheets[sheet];
        if (row.sort != NONE && row.sort != sort) {
            return UNLIKE;
        }
        if (row.sort == NONE) {
            return NOTHING;
        }
        if (!row.holds(from, n)) {
            return OUTSIDE;
        }
        for (int matter = 0; matter < n; matter++) {
            court.own[judge * SEATS + matter] = Math.abs(row.items[from + matter] % LIMIT);
        }
        changed();
        return n;
    }

    // ---- numbers, and what is reckoned anew

    private static boolean isSide(int side) {
        return side == 0 || side == 1;
    }

    private static boolean isSeat(int who) {
        return who >= 0 && who < SEATS;
    }

    private static boolean isPair(int judge, int matter) {
        return isSeat(judge) && isSeat(matter);
    }

    private static boolean isRule(int rule) {
        return rule >= 0 && rule < RULES;
    }

    private static boolean isSheet(int sheet) {
        return sheet >= 0 && sheet < SHEETS;
    }

    private void changed() {
        planned = false;
        shared = false;
        listed = false;
        heard = false;
    }

    private void refreshPlan() {
        if (!planned) {
            plan.load(court, teller);
            plan.weigh(false);
            planned = true;
        }
    }

    private void refreshShares() {
        refreshPlan();
        if (!shared) {
            plan.share();
            shared = true;
        }
    }

    private void refreshNextOnes() {
        refreshPlan();
        if (!listed) {
            nextOnes.find(plan);
            listed = true;
        }
    }

    private void refreshDiary() {
        refreshPlan();
        if (!heard) {
            diary.write(plan, thought, court.marks);
            heard = true;
        }
    }

    /** All that AN IMAGE keeps. PAIRS stand in rows by judge * SEATS + case. */
    private static final class Court {
        /** Bits of those IN. */
        int judges = 0, matters = 0;
        final int[] traits = new int[2 * SEATS * TRAITS];
        final long[] own = new long[PAIRS];
        final int[] marks = new int[PAIRS];
        final Rule[] rules = new Rule[RULES];
        final int[] weights = new int[RULES];

        Court() {
            Arrays.fill(own, NONE);
            for (int i = 0; i < RULES; i++) {
                rules[i] = new Rule();
            }
        }

        void take(Court other) {
            judges = other.judges;
            matters = other.matters;
            System.arraycopy(other.traits, 0, traits, 0, traits.length);
            System.arraycopy(other.own, 0, own, 0, PAIRS);
            System.arraycopy(other.marks, 0, marks, 0, PAIRS);
            for (int i = 0; i < RULES; i++) {
                rules[i].take(other.rules[i]);
            }
        }

        int seat(int side, int who, int is) {
            int bits = side == 0 ? judges : matters;
            int was = (bits >> who) & 1;
            bits = (bits & ~(1 << who)) | (is << who);
            if (side == 0) {
                judges = bits;
            } else {
                matters = bits;
            }
            return was;
        }

        boolean isIn(int pair) {
            return ((judges >> (pair / SEATS)) & (matters >> (pair % SEATS)) & 1) == 1;
        }

        boolean forcedBeside(int pair) {
            for (int other = 0; other < PAIRS; other++) {
                boolean beside = other / SEATS == pair / SEATS || other % SEATS == pair % SEATS;
                if (other != pair && beside && marks[other] == FORCED) {
                    return true;
                }
            }
            return false;
        }

        int marked(int mark) {
            int sum = 0;
            for (int i = 0; i < PAIRS; i++) {
                sum += marks[i] == mark ? 1 : 0;
            }
            return sum;
        }

        int owned() {
            int sum = 0;
            for (int i = 0; i < PAIRS; i++) {
                sum += own[i] != NONE ? 1 : 0;
            }
            return sum;
        }

        int namersOf(int rule) {
            int bits = 0;
            for (int i = 0; i < RULES; i++) {
                bits |= ((rules[i].names() >> rule) & 1) << i;
            }
            return bits;
        }

        int reachOf(int rule) {
            int bits = rules[rule].names();
            for (int pass = 0; pass < RULES; pass++) {
                for (int i = 0; i < RULES; i++) {
                    if (((bits >> i) & 1) == 1) {
                        bits |= rules[i].names();
                    }
                }
            }
            return bits;
        }

        /** No path of names is longer than there are RULES, so that as many passes settle the WEIGHTS. */
        void weighRules() {
            Arrays.fill(weights, 0);
            for (int pass = 0; pass < RULES; pass++) {
                for (int i = 0; i < RULES; i++) {
                    weights[i] = rules[i].weightBy(weights);
                }
            }
        }

        /** RING or FULL, if the RULES may not stand as they do now by the TEXT of this one; else 0. */
        int refusalOf(int rule) {
            if (((reachOf(rule) >> rule) & 1) == 1) {
                return RING;
            }
            weighRules();
            for (int i = 0; i < RULES; i++) {
                if (weights[i] > MOST_WEIGHT) {
                    return FULL;
                }
            }
            return 0;
        }
    }

    /** A TEXT as steps for a stack; without steps it is EMPTY. */
    private static final class Rule {
        int parts = 0, steps = 0;
        final int[] ops = new int[STEPS];
        final int[] args = new int[STEPS];
        final int[] places = new int[STEPS];

        void clear() {
            parts = 0;
            steps = 0;
        }

        void take(Rule other) {
            parts = other.parts;
            steps = other.steps;
            System.arraycopy(other.ops, 0, ops, 0, STEPS);
            System.arraycopy(other.args, 0, args, 0, STEPS);
            System.arraycopy(other.places, 0, places, 0, STEPS);
        }

        void add(int op, int arg, int place) {
            if (steps < STEPS) {
                ops[steps] = op;
                args[steps] = arg;
                places[steps] = place;
                steps++;
            }
        }

        /** The choice or leap made at a step goes on with the step that comes next. */
        void landHere(int step) {
            if (step >= 0 && step < STEPS) {
                args[step] = steps;
            }
        }

        int names() {
            int bits = 0;
            for (int i = 0; i < steps; i++) {
                if (ops[i] == OF_RULE) {
                    bits |= 1 << args[i];
                }
            }
            return bits;
        }

        int weightBy(int[] weights) {
            int sum = parts;
            for (int i = 0; i < steps; i++) {
                if (ops[i] == OF_RULE) {
                    sum += weights[args[i]];
                }
            }
            return sum;
        }
    }

    /** THE TAPE, and how a TEXT is read from it. */
    private static final class Tape {
        final int[] bytes = new int[TAPE_SIZE];
        int size = 0;
        /** The RULE that the TEXT is made in; text() gives another one for it. */
        Rule draft = new Rule();
        private int at = 0, nested = 0;
        /** The TOKEN that is looked at: a sign is its own byte; a LEAF, a FUNCTION come with op and arg. */
        private int token = END, place = 0, op = 0, arg = 0;

        boolean add(int letter) {
            if (size >= TAPE_SIZE) {
                return false;
            }
            bytes[size] = letter;
            size++;
            return true;
        }

        /** Makes of all bytes the TEXT of the draft: NONE, or the place of the FAULT. */
        int parse() {
            draft.clear();
            at = 0;
            nested = 0;
            step();
            return expr() && token == END ? NONE : place;
        }

        // Each of these eats what it is named after; where it answers false, the FAULT is the TOKEN looked at.
        // Brackets (5) and PARTS (24) are counted as they come, which keeps the calls shallow.

        private boolean expr() {
            if (!sum()) {
                return false;
            }
            if (token != '<') {
                return true;
            }
            int sign = place;
            if (!part() || !sum() || token != '?') {
                return false;
            }
            int choice = draft.steps;
            draft.add(LESS, 0, sign);
            step();
            if (!expr() || token != ':') {
                return false;
            }
            int leap = draft.steps;
            draft.add(LEAP, 0, place);
            draft.landHere(choice);
            step();
            if (!expr()) {
                return false;
            }
            draft.landHere(leap);
            return true;
        }

        private boolean sum() {
            if (!product()) {
                return false;
            }
            for (int i = 0; i <= MOST_PARTS && (token == '+' || token == '-'); i++) {
                int sort = token == '+' ? ADD : SUB;
                int sign = place;
                if (!part() || !product()) {
                    return false;
                }
                draft.add(sort, 0, sign);
            }
            return true;
        }

        private boolean product() {
            if (!factor()) {
                return false;
            }
            for (int i = 0; i <= MOST_PARTS && token == '*'; i++) {
                int sign = place;
                if (!part() || !factor()) {
                    return false;
                }
                draft.add(MUL, 0, sign);
            }
            return true;
        }

        /** 0 less a VALUE never FAILS, so that two such signs come to none. */
        private boolean factor() {
            boolean turned = false;
            for (int i = 0; i <= MOST_PARTS && token == '-'; i++) {
                if (!part()) {
                    return false;
                }
                turned = !turned;
            }
            if (!atom()) {
                return false;
            }
            if (turned) {
                draft.add(NEG, 0, 0);
            }
            return true;
        }

        private boolean atom() {
            switch (token) {
                case LEAF:
                    draft.add(op, arg, place);
                    return part();
                case '(':
                    return enter() && expr() && leave(')');
                case '|':
                    if (draft.parts >= MOST_PARTS || !enter() || !expr() || !leave('|')) {
                        return false;
                    }
                    draft.add(ABS, 0, 0);
                    return true;
                case FUNCTION:
                    return function();
                default:
                    return false;
            }
        }

        private boolean function() {
            int sort = op;
            int word = place;
            if (!part() || token != '(' || !enter() || !expr() || token != ',') {
                return false;
            }
            step();
            if (!expr() || !leave(')')) {
                return false;
            }
            draft.add(sort, 0, word);
            return true;
        }

        private boolean part() {
            if (draft.parts >= MOST_PARTS) {
                return false;
            }
            draft.parts++;
            step();
            return true;
        }

        private boolean enter() {
            if (nested >= MOST_OPEN) {
                return false;
            }
            if (token == '|') {
                draft.parts++;
            }
            nested++;
            step();
            return true;
        }

        private boolean leave(int sign) {
            if (token != sign) {
                return false;
            }
            nested--;
            step();
            return true;
        }

        private void step() {
            while (at < size && bytes[at] == ' ') {
                at++;
            }
            place = at;
            if (at >= size) {
                token = END;
                return;
            }
            int first = bytes[at];
            at++;
            if (isLetter(first)) {
                word(first);
            } else if (isDigit(first)) {
                digits(first);
            } else {
                token = isSign(first) ? first : BROKEN;
            }
        }

        private void word(int first) {
            while (at < size && isLetter(bytes[at])) {
                at++;
            }
            int length = at - place;
            if (length == 1) {
                nameOfOne(first);
            } else if (length == 3) {
                nameOfThree(first, bytes[place + 1], bytes[place + 2]);
            } else {
                token = BROKEN;
            }
        }

        private void nameOfOne(int letter) {
            token = LEAF;
            if (letter <= 'c') {
                op = OF_JUDGE;
                arg = letter - 'a';
            } else if (letter >= 'x') {
                op = OF_CASE;
                arg = letter - 'x';
            } else if (letter >= 'p' && letter <= 's') {
                op = OF_RULE;
                arg = letter - 'p';
            } else {
                token = BROKEN;
            }
        }

        private void nameOfThree(int first, int second, int third) {
            token = FUNCTION;
            if (first == 'm' && second == 'i' && third == 'n') {
                op = MIN;
            } else if (first == 'm' && second == 'a' && third == 'x') {
                op = MAX;
            } else if (first == 'd' && second == 'i' && third == 'v') {
                op = DIV;
            } else if (first == 'm' && second == 'o' && third == 'd') {
                op = MOD;
            } else {
                token = BROKEN;
            }
        }

        private void digits(int first) {
            token = LEAF;
            op = NUMBER;
            arg = first - '0';
            while (at < size && isDigit(bytes[at])) {
                arg = arg * 10 + bytes[at] - '0';
                at++;
            }
            if (at - place > MOST_DIGITS) {
                token = BROKEN;
            }
        }

        private static boolean isLetter(int c) {
            return c >= 'a' && c <= 'z';
        }

        private static boolean isDigit(int c) {
            return c >= '0' && c <= '9';
        }

        private static boolean isSign(int c) {
            switch (c) {
                case '+':
                case '-':
                case '*':
                case '(':
                case ')':
                case '|':
                case ',':
                case '<':
                case '?':
                case ':':
                    return true;
                default:
                    return false;
            }
        }
    }

    /** Tells the VALUE of RULES at a PAIR, and how the latest one FAILED. */
    private static final class Teller {
        private final long[] stack = new long[RULES * STEPS];
        private final int[] path = new int[RULES];
        int failure = 0, place = NONE, chain = 0, last = NONE, ahead = NONE;

        /** BURDEN of a PAIR, whoever is IN; NO: it has none. */
        long burdenOf(Court court, int pair) {
            if (court.own[pair] != NONE) {
                return court.own[pair];
            }
            long told = read(court, 0, pair, 0);
            return told == NO ? NO : Math.max(told, 0);
        }

        /** VALUE of a RULE; NO: it FAILS. */
        long tellBy(Court court, int number, int pair) {
            return read(court, number, pair, 0);
        }

        /**
         * VALUE of a RULE that is named by as many others in turn as depth tells.
         * No RULE comes to name itself, so that the depth stays below the number of RULES.
         */
        private long read(Court court, int number, int pair, int depth) {
            if (depth >= RULES) {
                return NO;
            }
            path[depth] = number;
            Rule rule = court.rules[number];
            int base = depth * STEPS;
            stack[base] = 0;
            int top = base;
            int at = 0;
            for (int n = 0; n < rule.steps && at < rule.steps; n++) {
                int op = rule.ops[at];
                int arg = rule.args[at];
                int sign = rule.places[at];
                at++;
                if (op <= OF_RULE) {
                    stack[top] = operand(court, op, arg, pair, depth);
                    if (stack[top] == NO) {
                        return NO;
                    }
                    top++;
                } else if (op == LEAP) {
                    at = arg;
                } else if (op == NEG) {
                    stack[top - 1] = -stack[top - 1];
                } else if (op == ABS) {
                    stack[top - 1] = Math.abs(stack[top - 1]);
                } else if (op == LESS) {
                    top -= 2;
                    at = stack[top] < stack[top + 1] ? at : arg;
                } else {
                    top--;
                    long v = join(op, stack[top - 1], stack[top]);
                    if (v < -LIMIT || v > LIMIT) {
                        return fail(v == NO ? BY_ZERO : TOO_GREAT, sign, depth);
                    }
                    stack[top - 1] = v;
                }
            }
            return stack[base];
        }

        private long operand(Court court, int op, int arg, int pair, int depth) {
            if (op == OF_RULE) {
                return read(court, arg, pair, depth + 1);
            }
            if (op == NUMBER) {
                return arg;
            }
            int who = op == OF_JUDGE ? pair / SEATS : SEATS + pair % SEATS;
            return court.traits[who * TRAITS + arg];
        }

        /** NO: a division by 0; what comes to more than LIMIT is for the caller to see. */
        private static long join(int op, long left, long right) {
            switch (op) {
                case ADD:
                    return left + right;
                case SUB:
                    return left - right;
                case MUL:
                    return left * right;
                case MIN:
                    return Math.min(left, right);
                case MAX:
                    return Math.max(left, right);
                default:
                    if (right == 0) {
                        return NO;
                    }
                    return op == DIV ? Math.floorDiv(left, right) : Math.floorMod(left, right);
            }
        }

        private long fail(int by, int sign, int depth) {
            failure = by;
            place = sign;
            chain = depth + 1;
            last = path[depth];
            ahead = depth > 0 ? path[depth - 1] : NONE;
            return NO;
        }
    }

    /** Which PAIRS are OPEN at what burdens, and what FULL MATCHINGS of them come to. */
    private static final class Plan {
        /** Bits of the cases IN, how many these are, and which, by number. */
        int matters = 0, cases = 0;
        final int[] order = new int[SEATS];
        /** Bits of the judges who are OPEN to one of these. */
        int openJudges = 0;
        /** Burdens of PAIRS whose judge and case are IN (NO: none); the judges OPEN to a case, as bits. */
        final long[] burdens = new long[PAIRS];
        final int[] rows = new int[SEATS];
        /**
         * By the set of judges that the first cases have taken (as many cases as judges are in the set):
         * the least TOTAL of all other cases (NO: none), in how many ways it comes, in how many ways the first
         * ones of a BEST one take that set.
         */
        final long[] least = new long[SETS];
        final int[] ways = new int[SETS];
        private final int[] reached = new int[SETS];
        /** How many BEST ones a PAIR is in. */
        final int[] shares = new int[PAIRS];

        void load(Court court, Teller teller) {
            matters = court.matters;
            for (int pair = 0; pair < PAIRS; pair++) {
                burdens[pair] = court.isIn(pair) ? teller.burdenOf(court, pair) : NO;
            }
            openBy(court.marks);
        }

        void take(Plan other) {
            matters = other.matters;
            System.arraycopy(other.burdens, 0, burdens, 0, PAIRS);
            System.arraycopy(other.rows, 0, rows, 0, SEATS);
        }

        void openBy(int[] marks) {
            Arrays.fill(rows, 0);
            for (int pair = 0; pair < PAIRS; pair++) {
                if (burdens[pair] != NO && marks[pair] != BARRED) {
                    rows[pair % SEATS] |= 1 << (pair / SEATS);
                }
            }
            for (int pair = 0; pair < PAIRS; pair++) {
                if (marks[pair] == FORCED) {
                    force(1 << (pair / SEATS), pair % SEATS);
                }
            }
        }

        private void force(int bit, int matter) {
            for (int other = 0; other < SEATS; other++) {
                rows[other] &= other == matter ? bit : ~bit;
            }
        }

        boolean isOpen(int judge, int matter) {
            return ((rows[matter] >> judge) & 1) == 1;
        }

        int openPairs() {
            int sum = 0;
            for (int matter = 0; matter < SEATS; matter++) {
                sum += Integer.bitCount(rows[matter]);
            }
            return sum;
        }

        void closeJudge(int judge) {
            for (int matter = 0; matter < SEATS; matter++) {
                rows[matter] &= ~(1 << judge);
            }
        }

        void closeHeavier(long limit) {
            for (int pair = 0; pair < PAIRS; pair++) {
                if (burdens[pair] > limit) {
                    rows[pair % SEATS] &= ~(1 << (pair / SEATS));
                }
            }
        }

        int heavierThan(long limit) {
            int sum = 0;
            for (int pair = 0; pair < PAIRS; pair++) {
                sum += isOpen(pair / SEATS, pair % SEATS) && burdens[pair] > limit ? 1 : 0;
            }
            return sum;
        }

        /** Reckons least and ways; of the greatest burdens (HEAVIEST) in place of TOTALS, if that is asked. */
        void weigh(boolean byHeaviest) {
            listCases();
            for (int used = SETS - 1; used >= 0; used--) {
                if (!canTake(used)) {
                    continue;
                }
                int turn = Integer.bitCount(used);
                if (turn < cases) {
                    weighFrom(used, order[turn], byHeaviest);
                } else {
                    least[used] = 0;
                    ways[used] = 1;
                }
            }
        }

        private void listCases() {
            cases = 0;
            openJudges = 0;
            for (int matter = 0; matter < SEATS; matter++) {
                if (((matters >> matter) & 1) == 1) {
                    order[cases] = matter;
                    cases++;
                    openJudges |= rows[matter];
                }
            }
        }

        /** Whether a set of judges may come to be taken at all; of others nothing is reckoned. */
        boolean canTake(int used) {
            return (used & ~openJudges) == 0;
        }

        private void weighFrom(int used, int matter, boolean byHeaviest) {
            long low = NO;
            int count = 0;
            int free = rows[matter] & ~used;
            for (int judge = 0; judge < SEATS; judge++) {
                if (((free >> judge) & 1) == 0) {
                    continue;
                }
                int then = used | (1 << judge);
                long rest = least[then];
                if (rest == NO) {
                    continue;
                }
                long own = burdens[judge * SEATS + matter];
                long sum = byHeaviest ? Math.max(own, rest) : own + rest;
                if (low == NO || sum < low) {
                    low = sum;
                    count = 0;
                }
                count += sum == low ? ways[then] : 0;
            }
            least[used] = low;
            ways[used] = count;
        }

        /** Whether a BEST one that has taken these judges may go on with this one for this case. */
        private boolean leads(int used, int judge, int matter) {
            int bit = 1 << judge;
            if ((rows[matter] & ~used & bit) == 0 || least[used | bit] == NO) {
                return false;
            }
            return burdens[judge * SEATS + matter] + least[used | bit] == least[used];
        }

        /**
         * The first judge for a case by whom those that have taken these judges come to least, if some judges are
         * closed to it; NONE: there is none.
         */
        int firstLead(int used, int matter, int shut) {
            int first = NONE;
            long low = NO;
            int free = rows[matter] & ~used & ~shut;
            for (int judge = 0; judge < SEATS; judge++) {
                if (((free >> judge) & 1) == 0 || least[used | (1 << judge)] == NO) {
                    continue;
                }
                long sum = burdens[judge * SEATS + matter] + least[used | (1 << judge)];
                if (first == NONE || sum < low) {
                    first = judge;
                    low = sum;
                }
            }
            return first;
        }

        /** The judges of BEST one i by cases, which is one of those that there are. */
        void pick(int i, int[] judges) {
            Arrays.fill(judges, NONE);
            int used = 0;
            int behind = i;
            for (int turn = 0; turn < cases; turn++) {
                int matter = order[turn];
                for (int judge = 0; judge < SEATS && judges[matter] == NONE; judge++) {
                    if (!leads(used, judge, matter)) {
                        continue;
                    }
                    int bit = 1 << judge;
                    if (behind < ways[used | bit]) {
                        judges[matter] = judge;
                        used |= bit;
                    } else {
                        behind -= ways[used | bit];
                    }
                }
            }
        }

        /** Reckons shares. */
        void share() {
            Arrays.fill(shares, 0);
            Arrays.fill(reached, 0);
            reached[0] = ways[0] == 0 ? 0 : 1;
            for (int used = 0; used < SETS; used++) {
                int turn = Integer.bitCount(used);
                if (reached[used] != 0 && turn < cases) {
                    shareFrom(used, order[turn]);
                }
            }
        }

        private void shareFrom(int used, int matter) {
            for (int judge = 0; judge < SEATS; judge++) {
                if (leads(used, judge, matter)) {
                    int then = used | (1 << judge);
                    reached[then] += reached[used];
                    shares[judge * SEATS + matter] += reached[used] * ways[then];
                }
            }
        }

        /** Whether a SHEET tells a MATCHING; its judges by cases then. */
        boolean follows(Sheet sheet, int[] judges) {
            Arrays.fill(judges, NONE);
            if (sheet.size != cases) {
                return false;
            }
            int used = 0;
            for (int turn = 0; turn < cases; turn++) {
                long said = sheet.items[turn];
                if (said < 0 || said >= SEATS) {
                    return false;
                }
                int judge = (int) said;
                int bit = 1 << judge;
                if ((used & bit) != 0 || !isOpen(judge, order[turn])) {
                    return false;
                }
                used |= bit;
                judges[order[turn]] = judge;
            }
            return true;
        }

        long sumOf(int[] judges) {
            long sum = 0;
            for (int turn = 0; turn < cases; turn++) {
                int matter = order[turn];
                sum += burdens[judges[matter] * SEATS + matter];
            }
            return sum;
        }

        int sharedOf(int[] judges) {
            int sum = 0;
            for (int turn = 0; turn < cases; turn++) {
                int matter = order[turn];
                sum += shares[judges[matter] * SEATS + matter] > 0 ? 1 : 0;
            }
            return sum;
        }
    }

    /** A GREATEST of some PAIRS (the judges of each case as bits), and whom it marks. */
    private static final class Greatest {
        int size = 0, markedCases = 0, markedJudges = 0;
        private final int[] judgeOf = new int[SEATS];
        private final int[] caseOf = new int[SEATS];
        private final int[] from = new int[SEATS];
        private final int[] queue = new int[SEATS];

        void find(int[] rows, int matters) {
            Arrays.fill(judgeOf, NONE);
            Arrays.fill(caseOf, NONE);
            size = 0;
            for (int matter = 0; matter < SEATS; matter++) {
                if (((matters >> matter) & 1) == 1 && grow(rows, matter)) {
                    size++;
                }
            }
            spread(rows, matters);
        }

        /** A case finds a judge, if need be by others giving theirs away for another one. */
        private boolean grow(int[] rows, int root) {
            int seen = 0;
            int waiting = 1;
            queue[0] = root;
            for (int i = 0; i < waiting && i < SEATS; i++) {
                int matter = queue[i];
                int fresh = rows[matter] & ~seen;
                for (int judge = 0; judge < SEATS; judge++) {
                    if (((fresh >> judge) & 1) == 0) {
                        continue;
                    }
                    seen |= 1 << judge;
                    from[judge] = matter;
                    if (caseOf[judge] == NONE) {
                        turn(judge);
                        return true;
                    }
                    // each case but the root waits by its own judge, who is seen but once: SEATS are enough
                    if (waiting < SEATS) {
                        queue[waiting] = caseOf[judge];
                        waiting++;
                    }
                }
            }
            return false;
        }

        private void turn(int free) {
            int judge = free;
            for (int i = 0; i < SEATS && judge != NONE; i++) {
                int matter = from[judge];
                int given = judgeOf[matter];
                judgeOf[matter] = judge;
                caseOf[judge] = matter;
                judge = given;
            }
        }

        /**
         * Some GREATEST leaves a case out, if this one does, or if its judge can be had for such a case:
         * from there the judge goes to it, and its own case is left out.
         */
        private void spread(int[] rows, int matters) {
            markedCases = 0;
            markedJudges = 0;
            for (int matter = 0; matter < SEATS; matter++) {
                if (((matters >> matter) & 1) == 1 && judgeOf[matter] == NONE) {
                    markedCases |= 1 << matter;
                }
            }
            for (int pass = 0; pass <= SEATS; pass++) {
                for (int matter = 0; matter < SEATS; matter++) {
                    if (((markedCases >> matter) & 1) == 1) {
                        markedJudges |= rows[matter];
                    }
                }
                for (int judge = 0; judge < SEATS; judge++) {
                    if (((markedJudges >> judge) & 1) == 1 && caseOf[judge] != NONE) {
                        markedCases |= 1 << caseOf[judge];
                    }
                }
            }
        }
    }

    /** ROUNDS as solve() has made them. */
    private static final class Rounds {
        int made = 0;
        /** By ROUND: what round() tells of it; the TOLLS of judges, then the PAYS of cases. */
        final long[] facts = new long[MOST_ROUNDS * FACTS];
        final long[] prices = new long[MOST_ROUNDS * 2 * SEATS];
        private final long[] tolls = new long[SEATS];
        private final long[] pays = new long[SEATS];
        private final int[] tight = new int[SEATS];

        void make(Plan plan, Greatest greatest) {
            Arrays.fill(tolls, 0);
            for (int matter = 0; matter < SEATS; matter++) {
                pays[matter] = firstPay(plan, matter);
            }
            made = 0;
            long rise = 0;
            for (int i = 0; i < MOST_ROUNDS && rise != NONE; i++) {
                int tightPairs = findTight(plan);
                greatest.find(tight, plan.matters);
                rise = leastSlack(plan, greatest.markedCases, ~greatest.markedJudges);
                keep(i, plan.matters & ~greatest.markedCases, greatest);
                facts[i * FACTS + 4] = rise;
                facts[i * FACTS + 5] = tightPairs;
                made++;
                if (rise != NONE) {
                    raise(greatest, rise);
                }
            }
        }

        private long firstPay(Plan plan, int matter) {
            long low = NONE;
            for (int judge = 0; judge < SEATS; judge++) {
                if (plan.isOpen(judge, matter)) {
                    long own = plan.burdens[judge * SEATS + matter];
                    low = low == NONE ? own : Math.min(low, own);
                }
            }
            return low == NONE ? 0 : low;
        }

        private long slack(Plan plan, int judge, int matter) {
            return plan.burdens[judge * SEATS + matter] + tolls[judge] - pays[matter];
        }

        private int findTight(Plan plan) {
            Arrays.fill(tight, 0);
            int sum = 0;
            for (int pair = 0; pair < PAIRS; pair++) {
                int judge = pair / SEATS;
                int matter = pair % SEATS;
                if (plan.isOpen(judge, matter) && slack(plan, judge, matter) == 0) {
                    tight[matter] |= 1 << judge;
                    sum++;
                }
            }
            return sum;
        }

        /** The least SLACK of OPEN PAIRS of these cases and judges (bits); NONE: there is none such. */
        private long leastSlack(Plan plan, int matters, int judges) {
            long low = NONE;
            for (int pair = 0; pair < PAIRS; pair++) {
                int judge = pair / SEATS;
                int matter = pair % SEATS;
                boolean asked = ((matters >> matter) & (judges >> judge) & 1) == 1;
                if (asked && plan.isOpen(judge, matter)) {
                    long slack = slack(plan, judge, matter);
                    low = low == NONE ? slack : Math.min(low, slack);
                }
            }
            return low;
        }

        private void keep(int i, int unmarkedCases, Greatest greatest) {
            facts[i * FACTS] = greatest.size;
            facts[i * FACTS + 1] = greatest.markedCases;
            facts[i * FACTS + 2] = greatest.markedJudges;
            facts[i * FACTS + 3] = greatest.markedJudges | (unmarkedCases << SEATS);
            System.arraycopy(tolls, 0, prices, i * 2 * SEATS, SEATS);
            System.arraycopy(pays, 0, prices, (i * 2 + 1) * SEATS, SEATS);
        }

        private void raise(Greatest greatest, long rise) {
            for (int who = 0; who < SEATS; who++) {
                tolls[who] += ((greatest.markedJudges >> who) & 1) * rise;
                pays[who] += ((greatest.markedCases >> who) & 1) * rise;
            }
        }
    }

    /**
     * NEXT ONES. A part of the FULL ones is: those that keep the first cases, by number, of one that was found, and
     * give the next case none of the judges closed to it. Of each part the first one waits; the first of all that wait
     * is found next, and the rest of its part splits by the case at which it leaves the one found.
     */
    private static final class NextOnes {
        int found = 0;
        final long[] totals = new long[NEXT_ONES];
        final int[] judges = new int[NEXT_ONES * SEATS];
        private int waiting = 0;
        /** By part: TOTAL and judges by cases of its first one, how many cases it keeps, whom it closes (bits). */
        private final long[] sums = new long[MOST_WAITING];
        private final int[] picks = new int[MOST_WAITING * SEATS];
        private final int[] keeps = new int[MOST_WAITING];
        private final int[] closed = new int[MOST_WAITING];

        void find(Plan plan) {
            found = 0;
            waiting = 0;
            propose(plan, 0, 0, 0);
            for (int i = 0; i < NEXT_ONES && waiting > 0; i++) {
                int part = firstPart();
                int turn = keeps[part];
                int shut = closed[part];
                keep(part);
                drop(part);
                split(plan, turn, shut);
            }
        }

        private int firstPart() {
            int first = 0;
            for (int part = 1; part < waiting; part++) {
                if (sums[part] < sums[first] || sums[part] == sums[first] && isAhead(part, first)) {
                    first = part;
                }
            }
            return first;
        }

        /** Whether the first one of a part is ahead of another's in ORDER; a case that is OUT has NONE in both. */
        private boolean isAhead(int part, int other) {
            for (int matter = 0; matter < SEATS; matter++) {
                int one = picks[part * SEATS + matter];
                int two = picks[other * SEATS + matter];
                if (one != two) {
                    return one < two;
                }
            }
            return false;
        }

        private void keep(int part) {
            totals[found] = sums[part];
            System.arraycopy(picks, part * SEATS, judges, found * SEATS, SEATS);
            found++;
        }

        /** The last part takes the place of one that waits no more. */
        private void drop(int part) {
            waiting--;
            sums[part] = sums[waiting];
            keeps[part] = keeps[waiting];
            closed[part] = closed[waiting];
            System.arraycopy(picks, waiting * SEATS, picks, part * SEATS, SEATS);
        }

        /** Splits what is left of the part of the one found latest. */
        private void split(Plan plan, int from, int shut) {
            int latest = found - 1;
            int out = shut;
            for (int turn = from; turn < plan.cases; turn++) {
                out |= 1 << judges[latest * SEATS + plan.order[turn]];
                propose(plan, latest, turn, out);
                out = 0;
            }
        }

        /** The part that keeps as many cases of a found one as turn tells waits, if there is one in it. */
        private void propose(Plan plan, int base, int turn, int shut) {
            if (waiting >= MOST_WAITING) {
                return;
            }
            int row = waiting * SEATS;
            for (int matter = 0; matter < SEATS; matter++) {
                picks[row + matter] = NONE;
            }
            int used = 0;
            long sum = 0;
            for (int i = 0; i < plan.cases; i++) {
                int matter = plan.order[i];
                int out = i == turn ? shut : 0;
                int judge = i < turn ? judges[base * SEATS + matter] : plan.firstLead(used, matter, out);
                if (judge == NONE) {
                    return;
                }
                picks[row + matter] = judge;
                used |= 1 << judge;
                sum += plan.burdens[judge * SEATS + matter];
            }
            sums[waiting] = sum;
            keeps[waiting] = turn;
            closed[waiting] = shut;
            waiting++;
        }

        /** Which NEXT ONE has these judges by cases; NONE: none of them. */
        int placeOf(int[] told) {
            for (int i = 0; i < found; i++) {
                boolean same = true;
                for (int matter = 0; matter < SEATS; matter++) {
                    same = same && judges[i * SEATS + matter] == told[matter];
                }
                if (same) {
                    return i;
                }
            }
            return NONE;
        }
    }

    /** DAYS: those that aren't STILL, with their TOTALS and the judges of each case. */
    private static final class Diary {
        int heard = 0;
        final long[] totals = new long[DAYS];
        final int[] judges = new int[DAYS * SEATS];
        private final int[] picks = new int[SEATS];
        private final int[] marks = new int[PAIRS];

        void write(Plan plan, Plan thought, int[] marksNow) {
            System.arraycopy(marksNow, 0, marks, 0, PAIRS);
            thought.take(plan);
            heard = 0;
            boolean still = false;
            for (int day = 0; day < DAYS && !still; day++) {
                thought.openBy(marks);
                thought.weigh(false);
                still = thought.least[0] == NO;
                if (!still) {
                    hear(thought, day);
                }
            }
        }

        private void hear(Plan thought, int day) {
            thought.pick(0, picks);
            totals[day] = thought.least[0];
            heard = day + 1;
            for (int matter = 0; matter < SEATS; matter++) {
                int judge = picks[matter];
                judges[day * SEATS + matter] = judge;
                if (judge != NONE) {
                    marks[judge * SEATS + matter] = BARRED;
                }
            }
        }
    }

    /** A row of numbers, each kept as it is in its sort; of sort NONE it is missing. */
    private static final class Sheet {
        int sort = NONE, size = 0;
        final long[] items = new long[SHEET_SIZE];

        void become(int newSort, int n) {
            sort = newSort;
            size = n;
            Arrays.fill(items, 0);
        }

        boolean holds(int from, int n) {
            return from >= 0 && n >= 0 && from <= size && n <= size - from;
        }

        void set(int i, long v) {
            if (sort == INTS) {
                items[i] = (int) v;
            } else if (sort == BYTES) {
                items[i] = (byte) v;
            } else {
                items[i] = v;
            }
        }
    }
}
