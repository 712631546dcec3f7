import java.util.ArrayList;
import java.util.Arrays;
import java.util.List;

/**
 * The document's words taken one by one, as slowly as they read: all FULL MATCHINGS are written out and sorted,
 * marks come from leaving each case out, TEXTS are told from their bytes each time.
 */
final class Oracle {
    static final int NONE = -1, BAD = -2, STATE = -3, FULL = -4, RING = -5;
    static final long NO = -4611686018427387904L, LIMIT = 1000000000L;

    private static final class Docket implements Cloneable {
        boolean[][] in = new boolean[2][8];
        int[][][] traits = new int[2][8][3];
        long[][] own = new long[8][8];
        int[][] marks = new int[8][8];
        String[] texts = new String[4];

        Docket twin() {
            Docket d = new Docket();
            for (int i = 0; i < 8; i++) {
                d.own[i] = own[i].clone();
                d.marks[i] = marks[i].clone();
                for (int side = 0; side < 2; side++) {
                    d.in[side][i] = in[side][i];
                    d.traits[side][i] = traits[side][i].clone();
                }
            }
            d.texts = texts.clone();
            return d;
        }
    }

    private Docket now = new Docket();
    private Docket image = null;
    private final StringBuilder tape = new StringBuilder();
    private List<long[]> kept = new ArrayList<>();
    private final long[][] sheets = new long[4][];
    private final int[] sorts = new int[4];
    private List<long[]> known = null;

    Oracle() {
        for (long[] row : now.own) {
            Arrays.fill(row, NONE);
        }
    }

    // ---- judges, cases, burdens

    int here(int side, int who, int is) {
        if (side < 0 || side > 1 || who < 0 || who > 7 || is < 0 || is > 1) {
            return BAD;
        }
        known = null;
        int was = now.in[side][who] ? 1 : 0;
        now.in[side][who] = is == 1;
        return was;
    }

    int trait(int side, int who, int which, int v) {
        if (side < 0 || side > 1 || who < 0 || who > 7 || which < 0 || which > 2 || v < -999 || v > 999) {
            return BAD;
        }
        known = null;
        int was = now.traits[side][who][which];
        now.traits[side][who][which] = v;
        return was;
    }

    private static boolean pair(int judge, int matter) {
        return judge >= 0 && judge <= 7 && matter >= 0 && matter <= 7;
    }

    long tell(int judge, int matter, long v) {
        if (!pair(judge, matter) || v < -1 || v > LIMIT) {
            return BAD;
        }
        known = null;
        now.own[judge][matter] = v;
        return total();
    }

    long burden(int judge, int matter) {
        if (!pair(judge, matter)) {
            return NO;
        }
        if (now.own[judge][matter] >= 0) {
            return now.own[judge][matter];
        }
        long v = value(0, judge, matter);
        return v == NO ? NO : v < 0 ? 0 : v;
    }

    int mark(int judge, int matter, int mark) {
        if (!pair(judge, matter) || mark < 0 || mark > 2) {
            return BAD;
        }
        if (mark == 2) {
            for (int i = 0; i < 8; i++) {
                if (i != matter && now.marks[judge][i] == 2 || i != judge && now.marks[i][matter] == 2) {
                    return STATE;
                }
            }
        }
        known = null;
        int was = now.marks[judge][matter];
        now.marks[judge][matter] = mark;
        return was;
    }

    private boolean isOpen(int judge, int matter) {
        if (!now.in[0][judge] || !now.in[1][matter] || now.marks[judge][matter] == 1) {
            return false;
        }
        for (int i = 0; i < 8; i++) {
            if (i != matter && now.marks[judge][i] == 2 || i != judge && now.marks[i][matter] == 2) {
                return false;
            }
        }
        return burden(judge, matter) != NO;
    }

    int open(int judge, int matter) {
        return !pair(judge, matter) ? BAD : isOpen(judge, matter) ? 1 : 0;
    }

    // ---- rules

    int feed(int letter) {
        if (letter < 0 || letter > 255) {
            return BAD;
        }
        if (tape.length() == 60) {
            return FULL;
        }
        tape.append((char) letter);
        return tape.length();
    }

    int text(int rule) {
        if (rule < 0 || rule > 3) {
            return BAD;
        }
        String text = tape.toString();
        tape.setLength(0);
        int fault = OracleText.fault(text);
        if (fault >= 0) {
            return -100 - fault;
        }
        String was = now.texts[rule];
        now.texts[rule] = text;
        if ((reach(rule, 0) >> rule & 1) == 1) {
            now.texts[rule] = was;
            return RING;
        }
        for (int i = 0; i < 4; i++) {
            if (weight(i) > 60) {
                now.texts[rule] = was;
                return FULL;
            }
        }
        known = null;
        return OracleText.parts(text);
    }

    int empty(int rule) {
        if (rule < 0 || rule > 3) {
            return BAD;
        }
        known = null;
        int had = now.texts[rule] == null ? 0 : OracleText.parts(now.texts[rule]);
        now.texts[rule] = null;
        return had;
    }

    private int names(int rule) {
        int bits = 0;
        if (now.texts[rule] != null) {
            for (int i : OracleText.named(now.texts[rule])) {
                bits |= 1 << i;
            }
        }
        return bits;
    }

    private int reach(int rule, int seen) {
        int bits = names(rule);
        int all = seen | bits;
        for (int i = 0; i < 4; i++) {
            if ((bits & ~seen & 1 << i) != 0) {
                all |= reach(i, all);
            }
        }
        return all;
    }

    private int weight(int rule) {
        if (now.texts[rule] == null) {
            return 0;
        }
        int sum = OracleText.parts(now.texts[rule]);
        for (int i : OracleText.named(now.texts[rule])) {
            sum += weight(i);
        }
        return sum;
    }

    int told(int rule, int what) {
        if (rule < 0 || rule > 3 || what < 0 || what > 4) {
            return BAD;
        }
        if (what == 3) {
            int bits = 0;
            for (int i = 0; i < 4; i++) {
                bits |= (names(i) >> rule & 1) << i;
            }
            return bits;
        }
        if (now.texts[rule] == null) {
            return 0;
        }
        return what == 0 ? OracleText.parts(now.texts[rule]) : what == 1 ? weight(rule)
            : what == 2 ? names(rule) : reach(rule, 0);
    }

    private long valueOf(int rule, int judge, int matter) {
        if (now.texts[rule] == null) {
            return 0;
        }
        try {
            return OracleText.value(now.texts[rule], name -> {
                if (name <= 'c') {
                    return now.traits[0][judge][name - 'a'];
                }
                return name >= 'x' ? now.traits[1][matter][name - 'x'] : valueOf(name - 'p', judge, matter);
            });
        } catch (OracleText.Fails fails) {
            fails.chain.add(0, rule);
            throw fails;
        }
    }

    long value(int rule, int judge, int matter) {
        if (rule < 0 || rule > 3 || !pair(judge, matter)) {
            return NO;
        }
        try {
            return valueOf(rule, judge, matter);
        } catch (OracleText.Fails fails) {
            return NO;
        }
    }

    int why(int judge, int matter, int what) {
        if (!pair(judge, matter) || what < 0 || what > 4) {
            return BAD;
        }
        try {
            valueOf(0, judge, matter);
            return what == 0 ? 0 : NONE;
        } catch (OracleText.Fails fails) {
            int size = fails.chain.size();
            return what == 0 ? fails.kind : what == 1 ? fails.place : what == 2 ? size
                : what == 3 ? fails.chain.get(size - 1) : size > 1 ? fails.chain.get(size - 2) : NONE;
        }
    }

    // ---- rounds

    private int casesIn() {
        int bits = 0;
        for (int i = 0; i < 8; i++) {
            bits |= now.in[1][i] ? 1 << i : 0;
        }
        return bits;
    }

    private int most(boolean[][] pairs, int matters, int matter, int used, int[] memo) {
        if (matter == 8) {
            return 0;
        }
        int at = matter * 256 + used;
        if (memo[at] > 0) {
            return memo[at] - 1;
        }
        int most = most(pairs, matters, matter + 1, used, memo);
        for (int judge = 0; judge < 8; judge++) {
            if ((matters >> matter & 1) == 1 && pairs[judge][matter] && (used >> judge & 1) == 0) {
                most = Math.max(most, 1 + most(pairs, matters, matter + 1, used | 1 << judge, memo));
            }
        }
        memo[at] = most + 1;
        return most;
    }

    /** How many a GREATEST has, MARKED cases, MARKED judges. */
    private int[] marks(boolean[][] pairs) {
        int in = casesIn();
        int size = most(pairs, in, 0, 0, new int[9 * 256]);
        int cases = 0;
        int judges = 0;
        for (int matter = 0; matter < 8; matter++) {
            boolean isIn = (in >> matter & 1) == 1;
            if (isIn && most(pairs, in & ~(1 << matter), 0, 0, new int[9 * 256]) == size) {
                cases |= 1 << matter;
                for (int judge = 0; judge < 8; judge++) {
                    judges |= pairs[judge][matter] ? 1 << judge : 0;
                }
            }
        }
        return new int[] {size, cases, judges};
    }

    private boolean[][] openPairs() {
        boolean[][] pairs = new boolean[8][8];
        for (int judge = 0; judge < 8; judge++) {
            for (int matter = 0; matter < 8; matter++) {
                pairs[judge][matter] = isOpen(judge, matter);
            }
        }
        return pairs;
    }

    /** A ROUND: what 0 .. 5, TOLLS (6 on), PAYS (14 on). */
    int solve() {
        kept = new ArrayList<>();
        boolean[][] open = openPairs();
        long[] tolls = new long[8];
        long[] pays = new long[8];
        for (int matter = 0; matter < 8; matter++) {
            long low = Long.MAX_VALUE;
            for (int judge = 0; judge < 8; judge++) {
                low = open[judge][matter] ? Math.min(low, burden(judge, matter)) : low;
            }
            pays[matter] = low == Long.MAX_VALUE ? 0 : low;
        }
        while (true) {
            boolean[][] tight = new boolean[8][8];
            int tights = 0;
            for (int judge = 0; judge < 8; judge++) {
                for (int matter = 0; matter < 8; matter++) {
                    tight[judge][matter] = open[judge][matter] && burden(judge, matter) + tolls[judge] == pays[matter];
                    tights += tight[judge][matter] ? 1 : 0;
                }
            }
            int[] marks = marks(tight);
            long rise = Long.MAX_VALUE;
            for (int judge = 0; judge < 8; judge++) {
                for (int matter = 0; matter < 8; matter++) {
                    if (open[judge][matter] && (marks[1] >> matter & 1) == 1 && (marks[2] >> judge & 1) == 0) {
                        rise = Math.min(rise, burden(judge, matter) + tolls[judge] - pays[matter]);
                    }
                }
            }
            boolean last = rise == Long.MAX_VALUE;
            long[] round = new long[22];
            round[0] = marks[0];
            round[1] = marks[1];
            round[2] = marks[2];
            round[3] = marks[2] + 256L * (casesIn() - marks[1]);
            round[4] = last ? NONE : rise;
            round[5] = tights;
            System.arraycopy(tolls, 0, round, 6, 8);
            System.arraycopy(pays, 0, round, 14, 8);
            kept.add(round);
            if (last) {
                return kept.size();
            }
            for (int i = 0; i < 8; i++) {
                tolls[i] += (marks[2] >> i & 1) == 1 ? rise : 0;
                pays[i] += (marks[1] >> i & 1) == 1 ? rise : 0;
            }
        }
    }

    long round(int i, int what) {
        return i < 0 || i >= kept.size() || what < 0 || what > 5 ? NO : kept.get(i)[what];
    }

    long price(int i, int side, int who) {
        boolean none = i < 0 || i >= kept.size() || side < 0 || side > 1 || who < 0 || who > 7;
        return none ? NO : kept.get(i)[6 + 8 * side + who];
    }

    // ---- the best ones

    /** All FULL ones by TOTAL and ORDER: judges by cases (0 .. 7), TOTAL (8), HEAVIEST (9). */
    private List<long[]> all() {
        if (known == null) {
            known = new ArrayList<>();
            long[] none = new long[10];
            Arrays.fill(none, 0, 8, NONE);
            write(openPairs(), 0, 0, none);
            known.sort((p, q) -> p[8] != q[8] ? Long.compare(p[8], q[8]) : Arrays.compare(p, 0, 8, q, 0, 8));
        }
        return known;
    }

    private void write(boolean[][] open, int matter, int used, long[] row) {
        if (matter == 8) {
            known.add(row.clone());
            return;
        }
        if (!now.in[1][matter]) {
            write(open, matter + 1, used, row);
            return;
        }
        for (int judge = 0; judge < 8; judge++) {
            if (open[judge][matter] && (used >> judge & 1) == 0) {
                long[] longer = row.clone();
                longer[matter] = judge;
                longer[8] += burden(judge, matter);
                longer[9] = Math.max(longer[9], burden(judge, matter));
                write(open, matter + 1, used | 1 << judge, longer);
            }
        }
    }

    private List<long[]> bestOnes() {
        List<long[]> best = new ArrayList<>();
        for (long[] row : all()) {
            if (row[8] == all().get(0)[8]) {
                best.add(row);
            }
        }
        return best;
    }

    long total() {
        return all().isEmpty() ? NO : all().get(0)[8];
    }

    int many() {
        return bestOnes().size();
    }

    int best(int i, int matter) {
        if (matter < 0 || matter > 7) {
            return BAD;
        }
        return i < 0 || i >= many() ? STATE : (int) bestOnes().get(i)[matter];
    }

    int kind(int judge, int matter) {
        if (!pair(judge, matter)) {
            return BAD;
        }
        if (all().isEmpty()) {
            return STATE;
        }
        int with = 0;
        for (long[] row : bestOnes()) {
            with += row[matter] == judge ? 1 : 0;
        }
        return with == 0 ? 0 : with == many() ? 2 : 1;
    }

    long room(int judge, int matter, int what) {
        if (!pair(judge, matter) || what < 0 || what > 1) {
            return NO;
        }
        for (long[] row : all()) {
            if (row[matter] == judge == (what == 0)) {
                return row[8];
            }
        }
        return NO;
    }

    long next(int i, int what) {
        if (i < 0 || i > 11 || what < NONE || what > 7 || i >= all().size()) {
            return NO;
        }
        return all().get(i)[what == NONE ? 8 : what];
    }

    long fair(int what) {
        if (what < 0 || what > 2 || all().isEmpty()) {
            return NO;
        }
        long least = Long.MAX_VALUE;
        for (long[] row : all()) {
            least = Math.min(least, row[9]);
        }
        if (what == 0) {
            return least;
        }
        if (what == 1) {
            for (long[] row : all()) {
                if (row[9] == least) {
                    return row[8];
                }
            }
        }
        int greater = 0;
        for (int judge = 0; judge < 8; judge++) {
            for (int matter = 0; matter < 8; matter++) {
                greater += isOpen(judge, matter) && burden(judge, matter) > least ? 1 : 0;
            }
        }
        return greater;
    }

    // ---- days, what is short, what would be

    private List<long[]> daysHeard() {
        Docket truly = now;
        List<long[]> knownTruly = known;
        List<long[]> heard = new ArrayList<>();
        now = now.twin();
        for (int day = 0; day < 8; day++) {
            known = null;
            if (all().isEmpty()) {
                break;
            }
            long[] first = all().get(0);
            heard.add(first);
            for (int matter = 0; matter < 8; matter++) {
                if (first[matter] != NONE) {
                    now.marks[(int) first[matter]][matter] = 1;
                }
            }
        }
        now = truly;
        known = knownTruly;
        return heard;
    }

    long days(int n) {
        if (n < 1 || n > 8) {
            return NO;
        }
        List<long[]> heard = daysHeard();
        if (heard.size() < n) {
            return NO;
        }
        long sum = 0;
        for (int i = 0; i < n; i++) {
            sum += heard.get(i)[8];
        }
        return sum;
    }

    int day(int day, int matter) {
        if (day < 0 || day > 7 || matter < 0 || matter > 7) {
            return BAD;
        }
        List<long[]> heard = daysHeard();
        return day >= heard.size() ? STATE : (int) heard.get(day)[matter];
    }

    int lack(int what) {
        if (what < 0 || what > 2) {
            return BAD;
        }
        int[] marks = marks(openPairs());
        return what == 0 ? Integer.bitCount(casesIn()) - marks[0] : marks[what];
    }

    long without(int side, int who) {
        if (side < 0 || side > 1 || who < 0 || who > 7) {
            return NO;
        }
        boolean was = now.in[side][who];
        List<long[]> knownTruly = known;
        now.in[side][who] = false;
        known = null;
        long total = total();
        now.in[side][who] = was;
        known = knownTruly;
        return total;
    }

    // ---- what was told

    long tells(int sheet, int what) {
        if (sheet < 0 || sheet > 3 || what < 0 || what > 2) {
            return BAD;
        }
        if (sheets[sheet] == null) {
            return -11;
        }
        int at = NONE;
        for (int i = 0; i < all().size() && at == NONE; i++) {
            List<Long> row = new ArrayList<>();
            for (int matter = 0; matter < 8; matter++) {
                if (now.in[1][matter]) {
                    row.add(all().get(i)[matter]);
                }
            }
            boolean same = row.size() == sheets[sheet].length;
            for (int j = 0; same && j < row.size(); j++) {
                same = row.get(j) == sheets[sheet][j];
            }
            at = same ? i : at;
        }
        if (at == NONE) {
            return STATE;
        }
        if (what < 2) {
            return what == 0 ? all().get(at)[8] : at < 12 ? at : NONE;
        }
        int some = 0;
        for (int matter = 0; matter < 8; matter++) {
            int judge = (int) all().get(at)[matter];
            some += judge != NONE && kind(judge, matter) > 0 ? 1 : 0;
        }
        return some;
    }

    int film(int sheet, int i) {
        if (sheet < 0 || sheet > 3) {
            return BAD;
        }
        if (i < 0 || i >= many()) {
            return STATE;
        }
        int n = Integer.bitCount(casesIn());
        sheet(sheet, 0, n);
        int at = 0;
        for (int matter = 0; matter < 8; matter++) {
            if (now.in[1][matter]) {
                sheets[sheet][at++] = bestOnes().get(i)[matter];
            }
        }
        return n;
    }

    int image() {
        image = now.twin();
        return count(2);
    }

    int back() {
        if (image == null) {
            return STATE;
        }
        known = null;
        now = image.twin();
        return count(2);
    }

    int count(int what) {
        int n = 0;
        for (int i = 0; i < 8; i++) {
            n += what == 0 && now.in[0][i] || what == 1 && now.in[1][i] ? 1 : 0;
            for (int j = 0; j < 8; j++) {
                n += what == 2 && isOpen(i, j) || what == 3 && now.marks[i][j] == 2
                    || what == 4 && now.marks[i][j] == 1 || what == 5 && now.own[i][j] != NONE ? 1 : 0;
            }
        }
        return what < 0 || what > 7 ? BAD : what == 6 ? kept.size() : what == 7 ? tape.length() : n;
    }

    // ---- the host

    int sheet(int sheet, int sort, int n) {
        if (sheet < 0 || sheet > 3 || sort < -1 || sort > 2 || sort >= 0 && n > 40) {
            return BAD;
        }
        if (sort >= 0 && n < 0) {
            return -14;
        }
        sorts[sheet] = sort;
        sheets[sheet] = sort < 0 ? null : new long[n];
        return 1;
    }

    int put(int sheet, int i, long v) {
        if (sheet < 0 || sheet > 3) {
            return BAD;
        }
        if (sheets[sheet] == null) {
            return -11;
        }
        if (i < 0 || i >= sheets[sheet].length) {
            return -12;
        }
        sheets[sheet][i] = sorts[sheet] == 0 ? v : sorts[sheet] == 1 ? (int) v : (byte) v;
        return 1;
    }

    long item(int sheet, int i) {
        boolean none = sheet < 0 || sheet > 3 || sheets[sheet] == null || i < 0 || i >= sheets[sheet].length;
        return none ? NO : sheets[sheet][i];
    }

    int copy(int sheet, int i, int other, int j, int n) {
        if (sheet < 0 || sheet > 3 || other < 0 || other > 3) {
            return BAD;
        }
        if (sheets[sheet] == null || sheets[other] == null) {
            return -11;
        }
        if (sorts[sheet] != sorts[other]) {
            return -13;
        }
        try {
            System.arraycopy(sheets[sheet], i, sheets[other], j, n);
        } catch (IndexOutOfBoundsException outside) {
            return -12;
        }
        return n;
    }

    int lay(int sheet, int judge, int sort, int from, int n) {
        if (sheet < 0 || sheet > 3 || judge < 0 || judge > 7 || sort < 0 || sort > 2 || n < 1 || n > 8) {
            return BAD;
        }
        if (sheets[sheet] == null) {
            return -11;
        }
        if (sorts[sheet] != sort) {
            return -13;
        }
        if (from < 0 || from > sheets[sheet].length - n) {
            return -12;
        }
        known = null;
        for (int i = 0; i < n; i++) {
            long left = sheets[sheet][from + i] % LIMIT;
            now.own[judge][i] = left < 0 ? -left : left;
        }
        return n;
    }
}
