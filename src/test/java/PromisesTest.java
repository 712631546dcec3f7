/** Each promise by hand: what is ordinary, the edges that the document names, wrong numbers. */
public final class PromisesTest {
    private static final int NONE = -1, BAD = -2, STATE = -3, FULL = -4, RING = -5;
    private static final int NOTHING = -11, OUTSIDE = -12, UNLIKE = -13, NEGATIVE = -14;
    private static final long NO = -4611686018427387904L;
    private static final long LIMIT = 1000000000L;
    private static final int LOW = Integer.MIN_VALUE, HIGH = Integer.MAX_VALUE;

    private PromisesTest() {
    }

    private static void due(String call, long got, long want) {
        Check.due(call, got, want);
    }

    private static void feed(CourtMatcher x, String bytes) {
        for (int i = 0; i < bytes.length(); i++) {
            x.feed(bytes.charAt(i));
        }
    }

    private static int text(CourtMatcher x, int rule, String bytes) {
        feed(x, bytes);
        return x.text(rule);
    }

    /** Judges 0 .. judges - 1 and cases 0 .. cases - 1 are IN. */
    private static CourtMatcher court(int judges, int cases) {
        CourtMatcher x = new CourtMatcher();
        for (int i = 0; i < judges; i++) {
            x.here(0, i, 1);
        }
        for (int i = 0; i < cases; i++) {
            x.here(1, i, 1);
        }
        return x;
    }

    /** As many judges as rows, as many cases as columns; -1 is a BARRED PAIR. */
    private static CourtMatcher court(int[][] burdens) {
        CourtMatcher x = court(burdens.length, burdens[0].length);
        for (int judge = 0; judge < burdens.length; judge++) {
            for (int matter = 0; matter < burdens[judge].length; matter++) {
                if (burdens[judge][matter] < 0) {
                    x.mark(judge, matter, 1);
                } else {
                    x.tell(judge, matter, burdens[judge][matter]);
                }
            }
        }
        return x;
    }

    private static final int[][] FOUR = {{3, 2, 4}, {1, 0, 5}, {3, 2, 2}, {8, 8, 8}};

    // ---- judges, cases, burdens

    private static void promise1() {
        CourtMatcher x = new CourtMatcher();
        for (int what = 0; what < 8; what++) {
            due("count(" + what + ")", x.count(what), 0);
        }
        for (int rule = 0; rule < 4; rule++) {
            for (int what = 0; what < 5; what++) {
                due("told(" + rule + ", " + what + ")", x.told(rule, what), 0);
            }
            due("item", x.item(rule, 0), NO);
            due("put", x.put(rule, 0, 1), NOTHING);
        }
        due("total()", x.total(), 0);
        due("many()", x.many(), 1);
        due("back()", x.back(), STATE);
        due("round(0, 0)", x.round(0, 0), NO);
        due("price(0, 0, 0)", x.price(0, 0, 0), NO);
        for (int i = 0; i < 8; i++) {
            due("burden", x.burden(i, 7 - i), 0);
            due("mark", x.mark(i, i, 0), 0);
            due("trait", x.trait(0, i, 2, 0), 0);
            due("trait", x.trait(1, i, 0, 0), 0);
            due("here(0)", x.here(0, i, 0), 0);
            due("here(1)", x.here(1, i, 0), 0);
        }
        CourtMatcher other = new CourtMatcher();
        x.here(0, 0, 1);
        due("another one", other.count(0), 0);
        due("constants", CourtMatcher.NONE * 10000 + CourtMatcher.BAD * 1000 + CourtMatcher.STATE * 100
            + CourtMatcher.FULL * 10 + CourtMatcher.RING, -12345);
        due("NO", CourtMatcher.NO, NO);
    }

    private static void promise2() {
        CourtMatcher x = new CourtMatcher();
        for (int side = 0; side < 2; side++) {
            for (int who = 0; who < 8; who++) {
                due("here in", x.here(side, who, 1), 0);
                due("here in again", x.here(side, who, 1), 1);
            }
            due("count", x.count(side), 8);
        }
        due("here(0, 7, 0)", x.here(0, 7, 0), 1);
        due("here(0, 7, 0) again", x.here(0, 7, 0), 0);
        due("judges", x.count(0), 7);
        due("cases", x.count(1), 8);
        int[][] wrong = {{-1, 0, 0}, {2, 0, 0}, {0, -1, 0}, {0, 8, 0}, {1, 8, 0}, {0, 0, -1}, {0, 0, 2},
            {LOW, 0, 0}, {HIGH, 0, 0}, {0, LOW, 0}, {0, HIGH, 0}, {1, 32, 0}, {0, 0, HIGH}, {0, 0, LOW}};
        for (int[] w : wrong) {
            due("here(" + w[0] + ", " + w[1] + ", " + w[2] + ")", x.here(w[0], w[1], w[2]), BAD);
        }
        due("judges", x.count(0), 7);
        due("cases", x.count(1), 8);
    }

    private static void promise3() {
        CourtMatcher x = new CourtMatcher();
        due("to 999", x.trait(0, 7, 2, 999), 0);
        due("to -999", x.trait(0, 7, 2, -999), 999);
        due("to 5", x.trait(0, 7, 2, 5), -999);
        due("side 1", x.trait(1, 7, 2, 6), 0);
        due("which 1", x.trait(0, 7, 1, 7), 0);
        due("which 0", x.trait(0, 7, 0, 8), 0);
        int[][] wrong = {{-1, 0, 0, 0}, {2, 0, 0, 0}, {0, -1, 0, 0}, {0, 8, 0, 0}, {0, 0, -1, 0}, {0, 7, 3, 0},
            {0, 7, 2, 1000}, {0, 7, 2, -1000}, {LOW, 0, 0, 0}, {0, HIGH, 0, 0}, {0, 0, HIGH, 0}, {0, 0, LOW, 0},
            {0, 7, 2, HIGH}, {0, 7, 2, LOW}};
        for (int[] w : wrong) {
            due("trait(" + w[0] + ", " + w[1] + ", " + w[2] + ", " + w[3] + ")", x.trait(w[0], w[1], w[2], w[3]), BAD);
        }
        due("stays", x.trait(0, 7, 2, 0), 5);
        due("stays", x.trait(1, 7, 2, 0), 6);
        text(x, 0, "a*100+b*10+c");
        x.trait(0, 3, 0, 1);
        x.trait(0, 3, 1, 2);
        x.trait(0, 3, 2, 3);
        due("burden follows", x.burden(3, 0), 123);
        text(x, 0, "x*100+y*10+z");
        x.trait(1, 4, 0, 4);
        x.trait(1, 4, 1, 5);
        x.trait(1, 4, 2, 6);
        due("burden follows", x.burden(0, 4), 456);
        x.here(0, 0, 1);
        x.here(1, 4, 1);
        due("total", x.total(), 456);
        x.trait(1, 4, 0, 0);
        due("total follows", x.total(), 56);
    }

    private static void promise4() {
        CourtMatcher x = court(2, 2);
        due("all rules' 0", x.tell(0, 0, 4), 0);
        due("tell(0, 1, 5)", x.tell(0, 1, 5), 4);
        due("tell(1, 0, 1)", x.tell(1, 0, 1), 4);
        due("tell(1, 1, 9)", x.tell(1, 1, 9), 6);
        due("none any more", x.tell(1, 1, NONE), 4);
        due("LIMIT", x.tell(1, 1, LIMIT), 6);
        due("LIMIT", x.tell(0, 1, LIMIT), LIMIT + 1);
        due("0", x.tell(1, 1, 0), 4);
        due("of one that's OUT", x.tell(7, 7, 3), 4);
        due("BAD", x.tell(-1, 0, 0), BAD);
        due("BAD", x.tell(8, 0, 0), BAD);
        due("BAD", x.tell(0, -1, 0), BAD);
        due("BAD", x.tell(0, 8, 0), BAD);
        due("BAD", x.tell(HIGH, 0, 0), BAD);
        due("BAD", x.tell(0, LOW, 0), BAD);
        due("BAD", x.tell(0, 0, -2), BAD);
        due("BAD", x.tell(0, 0, LIMIT + 1), BAD);
        due("BAD", x.tell(0, 0, Long.MAX_VALUE), BAD);
        due("BAD", x.tell(0, 0, Long.MIN_VALUE), BAD);
        due("BAD", x.tell(0, 0, 1L << 32), BAD);
        due("stays", x.burden(0, 0), 4);
        due("total stays", x.total(), 4);
        x.here(0, 0, 0);
        due("none", x.tell(0, 0, 1), NO);
    }

    private static void promise5() {
        CourtMatcher x = new CourtMatcher();
        due("EMPTY", x.burden(7, 7), 0);
        text(x, 0, "a-x");
        x.trait(0, 2, 0, 9);
        x.trait(1, 3, 0, 4);
        due("told by RULE 0", x.burden(2, 3), 5);
        due("below 0", x.burden(0, 3), 0);
        x.tell(2, 3, 77);
        due("OWN", x.burden(2, 3), 77);
        x.tell(2, 3, 0);
        due("OWN 0", x.burden(2, 3), 0);
        x.tell(2, 3, NONE);
        due("told again", x.burden(2, 3), 5);
        text(x, 0, "div(1,a-9)");
        due("fails", x.burden(2, 3), NO);
        due("another one doesn't", x.burden(1, 3), 0);
        x.tell(2, 3, 6);
        due("OWN though it fails", x.burden(2, 3), 6);
        text(x, 1, "5");
        x.empty(0);
        due("not RULE 1", x.burden(1, 1), 0);
        x.mark(1, 1, 1);
        x.tell(1, 1, 8);
        due("BARRED, OUT", x.burden(1, 1), 8);
        int[] wrong = {-1, 8, LOW, HIGH};
        for (int w : wrong) {
            due("burden(" + w + ", 0)", x.burden(w, 0), NO);
            due("burden(0, " + w + ")", x.burden(0, w), NO);
        }
    }

    private static void promise6() {
        CourtMatcher x = court(3, 3);
        due("to BARRED", x.mark(1, 2, 1), 0);
        due("to FORCED", x.mark(1, 2, 2), 1);
        due("FORCED again", x.mark(1, 2, 2), 2);
        due("its judge", x.mark(1, 0, 2), STATE);
        due("its case", x.mark(0, 2, 2), STATE);
        due("neither", x.mark(0, 0, 2), 0);
        due("BARRED beside", x.mark(1, 0, 1), 0);
        due("FREE beside", x.mark(1, 0, 0), 1);
        due("to FREE", x.mark(1, 2, 0), 2);
        due("its judge then", x.mark(1, 1, 2), 0);
        due("OUT ones", x.mark(7, 7, 2), 0);
        due("beside OUT ones", x.mark(7, 6, 2), STATE);
        int[][] wrong = {{-1, 0, 0}, {8, 0, 0}, {0, -1, 0}, {0, 8, 0}, {0, 1, -1}, {0, 1, 3}, {HIGH, 0, 0}, {0, LOW, 0},
            {8, 7, 2}, {1, 8, 2}};
        for (int[] w : wrong) {
            due("mark(" + w[0] + ", " + w[1] + ", " + w[2] + ")", x.mark(w[0], w[1], w[2]), BAD);
        }
        CourtMatcher first = new CourtMatcher();
        first.mark(0, 0, 2);
        due("beside the first PAIR", first.mark(0, 7, 2), STATE);
        due("beside the first PAIR", first.mark(7, 0, 2), STATE);
        due("apart", first.mark(7, 7, 2), 0);
        first = court(2, 1);
        due("OPEN ones", first.count(2), 2);
        first.mark(1, 0, 1);
        due("OPEN ones follow", first.count(2), 1);
        due("three FORCED", x.count(3), 3);
        due("none BARRED", x.count(4), 0);
    }

    private static void promise7() {
        CourtMatcher x = court(3, 3);
        due("both IN", x.open(0, 0), 1);
        due("case OUT", x.open(0, 3), 0);
        due("judge OUT", x.open(3, 0), 0);
        x.mark(0, 0, 1);
        due("BARRED", x.open(0, 0), 0);
        x.mark(0, 0, 2);
        due("FORCED", x.open(0, 0), 1);
        due("beside, of the judge", x.open(0, 2), 0);
        due("beside, of the case", x.open(2, 0), 0);
        due("apart", x.open(1, 2), 1);
        x.here(0, 0, 0);
        due("FORCED, OUT", x.open(0, 0), 0);
        due("still forces", x.open(1, 0), 0);
        x.here(0, 0, 1);
        x.here(1, 0, 0);
        due("still forces", x.open(0, 1), 0);
        x.here(1, 0, 1);
        x.mark(0, 0, 0);
        text(x, 0, "div(1,a)");
        due("no BURDEN", x.open(1, 1), 0);
        x.tell(1, 1, 0);
        due("OWN one", x.open(1, 1), 1);
        due("beside it none", x.open(1, 2), 0);
        x.mark(2, 2, 2);
        due("FORCED without BURDEN", x.open(2, 2), 0);
        int[] wrong = {-1, 8, LOW, HIGH};
        for (int w : wrong) {
            due("open(" + w + ", 0)", x.open(w, 0), BAD);
            due("open(0, " + w + ")", x.open(0, w), BAD);
        }
    }

    // ---- rules

    private static void promise8() {
        CourtMatcher x = new CourtMatcher();
        int[] wrong = {-1, 256, LOW, HIGH};
        for (int w : wrong) {
            due("feed(" + w + ")", x.feed(w), BAD);
        }
        due("none came", x.count(7), 0);
        due("feed(0)", x.feed(0), 1);
        due("feed(255)", x.feed(255), 2);
        for (int i = 3; i <= 60; i++) {
            due("feed", x.feed('a'), i);
        }
        due("the 61st", x.feed('a'), FULL);
        due("BAD ahead of FULL", x.feed(256), BAD);
        due("stays", x.count(7), 60);
        due("first byte", x.text(0), -100);
        due("empty then", x.feed('a'), 1);
    }

    private static void fault(String bytes, int place) {
        CourtMatcher x = new CourtMatcher();
        due("'" + bytes + "'", text(x, 0, bytes), -100 - place);
        due("tape after '" + bytes + "'", x.count(7), 0);
        due("rule after '" + bytes + "'", x.told(0, 0), 0);
    }

    private static void parts(String bytes, int parts) {
        CourtMatcher x = new CourtMatcher();
        due("'" + bytes + "'", text(x, 2, bytes), parts);
        due("tape after '" + bytes + "'", x.count(7), 0);
    }

    private static void promise9Texts() {
        parts("a", 1);
        parts("  a  ", 1);
        parts("a+b-c*x", 7);
        parts("--a", 3);
        parts("a - - b", 4);
        parts("|a|", 2);
        parts("||a||", 3);
        parts("|a|+|b|", 5);
        parts("|a*|b||", 5);
        parts("(a)", 1);
        parts("min(a,b)", 3);
        parts("max(min(a,b),div(c,mod(x,y)))", 9);
        parts("a<b?c:x", 5);
        parts("a<b?c<x?1:2:y<z?3:4", 13);
        parts("(a<b?1:2)<3?4:5", 9);
        parts("|a<b?1:2|", 6);
        parts("min(a<b?1:2,3)", 7);
        parts("0000", 1);
        parts("9999", 1);
        parts("(((((a)))))", 1);
        parts("|(|(|a|)|)|", 4);
        parts("(((((a)))))+(((((b)))))", 3);
        parts("a+a+a+a+a+a+a+a+a+a+a+-a", 24);
        parts("a+a+a+a+a+a+a+a+a+a+a+|a|", 24);
        parts("a+a+a+a+a+a+a+a+a+a+a+(-a)", 24);
        parts("-----------------------a", 24);
        parts("s", 1);
    }

    private static void promise9Faults() {
        fault("", 0);
        fault("   ", 3);
        fault("a+", 2);
        fault("a+ ", 3);
        fault("a b", 2);
        fault("a 1", 2);
        fault("1a", 1);
        fault("a)", 1);
        fault(")", 0);
        fault("*a", 0);
        fault("+a", 0);
        fault("a**b", 2);
        fault("()", 1);
        fault("(a", 2);
        fault("(a|", 2);
        fault("|a)", 2);
        fault("|a", 2);
        fault("|a||", 3);
        fault("||a|", 4);
        fault("||", 2);
        fault("a|b|", 1);
        fault("aa", 0);
        fault("k", 0);
        fault("d", 0);
        fault("o", 0);
        fault("t", 0);
        fault("w", 0);
        fault("A", 0);
        fault("a+mix(a,b)", 2);
        fault("minn(a,b)", 0);
        fault("mi(a,b)", 0);
        fault("min a", 4);
        fault("min", 3);
        fault("min2(a,b)", 3);
        for (String word : new String[] {"mid", "dim", "did", "dix", "dov", "xiv", "mad", "man", "mox", "mix", "nax", "vod",
            "min", "max", "div", "mod", "mmin", "maxx", "di", "moda"}) {
            boolean one = word.equals("min") || word.equals("max") || word.equals("div") || word.equals("mod");
            fault(word + " a", one ? 4 : 0);
        }
        fault("min(a)", 5);
        fault("min(a,b,c)", 7);
        fault("min(,b)", 4);
        fault("(a,b)", 2);
        fault("a,b", 1);
        fault("00000", 0);
        fault("a+12345", 2);
        fault("12345678901234567890", 0);
        fault("a<b", 3);
        fault("a<b:c", 3);
        fault("a?b:c", 1);
        fault("a:b", 1);
        fault("a<b?c", 5);
        fault("a<b?c)", 5);
        fault("a<b?c:", 6);
        fault("a<b?c:d", 6);
        fault("a<b?c:x:y", 7);
        fault("a<b<c?x:y", 3);
        fault("(a<b)", 4);
        fault("(a<b?c)", 6);
        fault("|a<b|", 4);
        fault("a<b?(c:x)", 6);
        fault("a;b", 1);
        fault("a\tb", 1);
        fault("a" + (char) 0, 1);
        fault("a" + (char) 255, 1);
        fault("a = b", 2);
        fault("((((((a", 5);
        fault("|||||| a", 5);
        fault("( ( ( ( min(max(", 15);
        fault("((((( |a|", 6);
        fault("(((((a))))) ((", 12);
        fault("a+a+a+a+a+a+a+a+a+a+a+a+a", 24);
        fault("a+a+a+a+a+a+a+a+a+a+a+aa", 22);
        fault("a+a+a+a+a+a+a+a+a+a+a+-b+", 24);
        fault("a+a+a+a+a+a+a+a+a+a+a+-|b|", 24);
        fault("a+a+a+a+a+a+a+a+a+a+a+--|b|", 24);
        fault("a+a+a+a+a+a+a+a+a+a+a+-min(a,b)", 27);
        fault("a+a+a+a+a+a+a+a+a+a+a+--min(a,b)", 24);
        fault("a+a+a+a+a+a+a+a+a+a+a+-a<1?2:3", 24);
        fault("a+a+a+a+a+a+a+a+a+a+a+-(a)*2", 26);
        fault("a+a+a+a+a+a+a+a+a+a+a+--a", 24);
        fault("a+a+a+a+a+a+a+a+a+a+a+-a b", 25);
    }

    private static void promise9Rules() {
        CourtMatcher x = new CourtMatcher();
        feed(x, "a+b");
        due("BAD", x.text(-1), BAD);
        due("BAD", x.text(4), BAD);
        due("BAD", x.text(HIGH), BAD);
        due("BAD", x.text(LOW), BAD);
        due("tape stays", x.count(7), 3);
        due("text(3)", x.text(3), 3);
        due("at once", text(x, 0, "1+p"), RING);
        due("tape is empty", x.count(7), 0);
        due("stays EMPTY", x.told(0, 0), 0);
        due("p names q", text(x, 0, "q*2"), 3);
        due("q names r", text(x, 1, "r"), 1);
        due("r names p", text(x, 2, "p+1"), RING);
        due("r names q", text(x, 2, "1-q"), RING);
        due("r stays", x.told(2, 0), 0);
        due("r names s", text(x, 2, "s"), 1);
        due("s names p", text(x, 3, "p"), RING);
        due("s stays", x.told(3, 0), 3);
        due("FAULT ahead of RING", text(x, 3, "p+"), -102);
        due("s stays", x.told(3, 0), 3);
        due("q names none", text(x, 1, "7"), 1);
        due("r names p now", text(x, 2, "p"), 1);
        due("value", x.value(2, 0, 0), 14);
    }

    private static void promise9Tape() {
        CourtMatcher x = new CourtMatcher();
        due("(((((, all open", text(x, 0, "((((("), -105);
        due("||||| at a FAULT", text(x, 0, "|||||a b"), -107);
        due("brackets anew", text(x, 0, "(((((7)))))"), 1);
        String blanks = "                                                       ";
        due("60 bytes, digits last", text(x, 0, blanks + "10+23"), 3);
        due("VALUE", x.value(0, 0, 0), 33);
        due("60 bytes, blanks last", text(x, 0, "5+6+7" + blanks), 5);
        due("VALUE", x.value(0, 0, 0), 18);
        due("60 bytes, a word last", text(x, 0, blanks + "1+max"), -160);
        due("60 bytes, a name last", text(x, 0, blanks + "1+2+a"), 5);
        due("60 bytes, none such last", text(x, 0, blanks + "1+aaa"), -157);
        due("60 bytes, too long", text(x, 0, blanks + "12345"), -155);
        due("VALUE stays", x.value(0, 0, 0), 3);
        due("old bytes are gone", text(x, 0, "4"), 1);
        due("VALUE", x.value(0, 0, 0), 4);
    }

    private static void promise9Weight() {
        CourtMatcher x = new CourtMatcher();
        String nineteen = "1+1+1+1+1+1+1+1+1+1";
        due("19 PARTS", text(x, 3, nineteen), 19);
        due("2 of these and 3", text(x, 2, "s+s"), 3);
        due("WEIGHT 41", x.told(2, 1), 41);
        due("WEIGHT 62", text(x, 1, "s+s+s"), FULL);
        due("q stays", x.told(1, 0), 0);
        due("42", text(x, 1, "-r"), 2);
        due("WEIGHT 43", x.told(1, 1), 43);
        due("60", text(x, 0, "q+1+1+1+1+1+1+1+1"), 17);
        due("WEIGHT 60", x.told(0, 1), 60);
        due("61", text(x, 0, "-q+1+1+1+1+1+1+1+1"), FULL);
        due("stays", x.told(0, 0), 17);
        due("one that is named grows", text(x, 3, nineteen + "+1"), FULL);
        due("stays", x.told(3, 0), 19);
        due("it shrinks", text(x, 3, "1+1"), 3);
        due("WEIGHT 28", x.told(0, 1), 28);
        due("RING ahead of FULL", text(x, 3, "q+q+q+q+q+q+q+q"), RING);
        due("tape is empty", x.count(7), 0);
        due("p's VALUE", x.value(0, 0, 0), 4);
    }

    private static void promise10() {
        CourtMatcher x = court(1, 1);
        due("EMPTY", x.empty(0), 0);
        text(x, 0, "3+q");
        text(x, 1, "4");
        due("total", x.total(), 7);
        due("empty(1)", x.empty(1), 1);
        due("total follows", x.total(), 3);
        due("named still", x.told(1, 3), 1);
        due("empty(0)", x.empty(0), 3);
        due("empty(0) again", x.empty(0), 0);
        due("burden", x.burden(0, 0), 0);
        due("told", x.told(0, 2), 0);
        int[] wrong = {-1, 4, LOW, HIGH};
        for (int w : wrong) {
            due("empty(" + w + ")", x.empty(w), BAD);
        }
        due("no RING then", text(x, 1, "p"), 1);
    }

    private static void promise11() {
        CourtMatcher x = new CourtMatcher();
        text(x, 0, "q+q*s");
        text(x, 1, "|r|-1");
        int[][] before = {{5, 13, 10, 0, 14}, {4, 4, 4, 1, 4}, {0, 0, 0, 2, 0}, {0, 0, 0, 1, 0}};
        for (int rule = 0; rule < 4; rule++) {
            for (int what = 0; what < 5; what++) {
                due("told(" + rule + ", " + what + ")", x.told(rule, what), before[rule][what]);
            }
        }
        text(x, 2, "s+s");
        int[][] after = {{5, 19, 10, 0, 14}, {4, 7, 4, 1, 12}, {3, 3, 8, 2, 8}, {0, 0, 0, 5, 0}};
        for (int rule = 0; rule < 4; rule++) {
            for (int what = 0; what < 5; what++) {
                due("told(" + rule + ", " + what + ")", x.told(rule, what), after[rule][what]);
            }
        }
        x.empty(2);
        due("WEIGHT follows", x.told(0, 1), 13);
        due("REACH follows", x.told(0, 4), 14);
        x.empty(0);
        due("named by none", x.told(1, 3), 0);
        int[] wrong = {-1, 4, LOW, HIGH};
        for (int w : wrong) {
            due("told(" + w + ", 0)", x.told(w, 0), BAD);
        }
        int[] wrongWhat = {-1, 5, LOW, HIGH};
        for (int w : wrongWhat) {
            due("told(1, " + w + ")", x.told(1, w), BAD);
            due("told(0, " + w + ")", x.told(0, w), BAD);
        }
    }

    private static void value(String bytes, long want) {
        CourtMatcher x = new CourtMatcher();
        x.trait(0, 5, 0, 7);
        x.trait(0, 5, 1, -3);
        x.trait(0, 5, 2, 999);
        x.trait(1, 6, 0, 2);
        x.trait(1, 6, 1, -20);
        x.trait(1, 6, 2, 0);
        text(x, 3, "100");
        due("'" + bytes + "' reads", text(x, 1, bytes) > 0 ? 1 : 0, 1);
        due("'" + bytes + "'", x.value(1, 5, 6), want);
    }

    private static void promise12() {
        value("a", 7);
        value("b", -3);
        value("c", 999);
        value("x", 2);
        value("y", -20);
        value("z", 0);
        value("s", 100);
        value("r", 0);
        value("a-b-c", -989);
        value("a-(b-c)", 1009);
        value("a+b*x", 1);
        value("(a+b)*x", 8);
        value("-a*b", 21);
        value("-a-b", -4);
        value("a--b", 4);
        value("---a", -7);
        value("|b|", 3);
        value("|a|", 7);
        value("-|b|*|y|", -60);
        value("|a*|b||", 21);
        value("min(a,b)", -3);
        value("max(a,b)", 7);
        value("div(a,b)", -3);
        value("div(-a,b)", 2);
        value("div(a,x)", 3);
        value("div(-a,x)", -4);
        value("mod(a,b)", -2);
        value("mod(-a,b)", -1);
        value("mod(-a,x)", 1);
        value("mod(a,x)", 1);
        value("div(z,a)", 0);
        value("0012", 12);
        value("a<7?1:2", 2);
        value("a<8?1:2", 1);
        value("a<6?1:2", 2);
        value("b<a?a<b?1:2:3", 2);
        value("a<b?1:b<a?2:3", 2);
        value("(a<b?1:2)+10", 12);
        value("a<b?1:2+10", 12);
        value("b<a?1:2+10", 1);
        value("1+a<9?3:4", 3);
        value("b<a?5:div(1,0)", 5);
        value("a<b?div(1,0):6", 6);
        value("b<a?div(1,0):6", NO);
        value("div(1,z)", NO);
        value("mod(1,z)", NO);
        value("1000*1000*1000", LIMIT);
        value("1000*1000*-1000", -LIMIT);
        value("1000*1000*1000+1", NO);
        value("1000*1000*-1000-1", NO);
        value("1000*1000*-1000+1", 1 - LIMIT);
        value("5000*5000*41", NO);
        value("5000*5000*-41", NO);
        value("9999*9999*9999", NO);
        value("-(1000*1000*1000)", -LIMIT);
        value("div(1000*1000*-1000,-1)", LIMIT);
        value("1000*1000*1000+1-1", NO);
        CourtMatcher x = new CourtMatcher();
        due("EMPTY", x.value(0, 0, 0), 0);
        int[] wrong = {-1, 8, LOW, HIGH};
        for (int w : wrong) {
            due("value(0, " + w + ", 0)", x.value(0, w, 0), NO);
            due("value(0, 0, " + w + ")", x.value(0, 0, w), NO);
        }
        int[] wrongRule = {-1, 4, LOW, HIGH};
        for (int w : wrongRule) {
            due("value(" + w + ", 0, 0)", x.value(w, 0, 0), NO);
        }
    }

    private static void why(String bytes, int kind, int place) {
        CourtMatcher x = new CourtMatcher();
        due("'" + bytes + "' reads", text(x, 0, bytes) > 0 ? 1 : 0, 1);
        due("kind of '" + bytes + "'", x.why(7, 7, 0), kind);
        due("place of '" + bytes + "'", x.why(7, 7, 1), place);
        due("chain of '" + bytes + "'", x.why(7, 7, 2), kind == 0 ? NONE : 1);
        due("last of '" + bytes + "'", x.why(7, 7, 3), kind == 0 ? NONE : 0);
        due("ahead in '" + bytes + "'", x.why(7, 7, 4), NONE);
    }

    private static void promise13() {
        why("1", 0, NONE);
        why("div(1,0)", 1, 0);
        why(" mod (1,a)", 1, 1);
        why("1+div(1,0)", 1, 2);
        why("div(1,0)+mod(1,0)", 1, 0);
        why("9999*9999*9999", 2, 9);
        why("9999*9999*9999+div(1,0)", 2, 9);
        why("div(1,0)+9999*9999*9999", 1, 0);
        why("1000*1000*1000 + 1", 2, 15);
        why("-1000*1000*1000 - 1", 2, 16);
        why("1000*1000*1000+0+div(1,0)", 1, 17);
        why("1000*1000*1000+div(1,0)", 1, 15);
        why("1000*1000*1000+1+div(1,0)", 2, 14);
        why("div(div(1,0),mod(1,0))", 1, 4);
        why("div(mod(1,1),mod(1,0))", 1, 13);
        why("div(1,0)<mod(1,0)?1:2", 1, 0);
        why("1<2?3:div(1,0)", 0, NONE);
        why("2<1?3:div(1,0)", 1, 6);
        CourtMatcher x = new CourtMatcher();
        due("EMPTY", x.why(0, 0, 0), 0);
        due("EMPTY", x.why(0, 0, 2), NONE);
        text(x, 0, "1+r");
        text(x, 2, "s*q");
        text(x, 1, "div(1,x)");
        text(x, 3, "mod(5,a)");
        int[] first = {1, 0, 3, 3, 2};
        for (int what = 0; what < 5; what++) {
            due("why(1, 1, " + what + ")", x.why(1, 1, what), first[what]);
        }
        x.trait(0, 1, 0, 3);
        int[] second = {1, 0, 3, 1, 2};
        for (int what = 0; what < 5; what++) {
            due("why(1, 1, " + what + ")", x.why(1, 1, what), second[what]);
        }
        x.trait(1, 1, 0, 1);
        due("doesn't fail", x.why(1, 1, 0), 0);
        for (int what = 1; what < 5; what++) {
            due("why(1, 1, " + what + ")", x.why(1, 1, what), NONE);
        }
        x.tell(2, 2, 5);
        due("whatever its OWN burden", x.why(2, 2, 0), 1);
        text(x, 2, "s*9999*9999*9999");
        x.trait(0, 2, 0, 7);
        int[] third = {2, 11, 2, 2, 0};
        for (int what = 0; what < 5; what++) {
            due("why(2, 2, " + what + ")", x.why(2, 2, what), third[what]);
        }
        text(x, 2, "q");
        text(x, 1, "s");
        text(x, 3, "   div(1,0)");
        int[] fourth = {1, 3, 4, 3, 1};
        for (int what = 0; what < 5; what++) {
            due("why(2, 2, " + what + ")", x.why(2, 2, what), fourth[what]);
        }
        int[] wrong = {-1, 8, LOW, HIGH};
        for (int w : wrong) {
            due("why(" + w + ", 0, 0)", x.why(w, 0, 0), BAD);
            due("why(0, " + w + ", 0)", x.why(0, w, 0), BAD);
        }
        due("why(0, 0, -1)", x.why(0, 0, -1), BAD);
        due("why(0, 0, 5)", x.why(0, 0, 5), BAD);
        x.empty(0);
        due("EMPTY, what 5", x.why(0, 0, 5), BAD);
    }

    // ---- rounds

    private static void promise14() {
        CourtMatcher x = new CourtMatcher();
        due("none IN", x.solve(), 1);
        x = court(new int[][] {{1, 2}, {5, 9}});
        due("none kept", x.count(6), 0);
        due("solve()", x.solve(), 2);
        due("kept", x.count(6), 2);
        x.here(0, 1, 0);
        x.tell(0, 0, 8);
        due("kept as they were", x.round(0, 4), 4);
        x.image();
        due("image leaves them", x.count(6), 2);
        x.here(1, 0, 0);
        x.back();
        due("back leaves them", x.count(6), 2);
        due("price stays", x.price(1, 1, 1), 6);
        due("solve() again", x.solve(), 1);
        due("those are gone", x.round(1, 0), NO);
        due("price is new", x.price(0, 1, 0), 8);
        due("three rounds", court(new int[][] {{0, 0, 0}, {1, 5, 9}, {3, 9, 20}}).solve(), 4);
    }

    private static void rounds(CourtMatcher x, long[][] want) {
        due("solve()", x.solve(), want.length);
        for (int i = 0; i < want.length; i++) {
            for (int what = 0; what < 6; what++) {
                due("round(" + i + ", " + what + ")", x.round(i, what), want[i][what]);
            }
        }
    }

    private static void promise15() {
        rounds(court(new int[][] {{1, 2}, {5, 9}}), new long[][] {{1, 3, 1, 1, 4, 2}, {2, 0, 0, 768, NONE, 3}});
        // all want judge 0; then judge 1 does for case 0, who is never left out; then for case 1, too
        rounds(court(new int[][] {{0, 0, 0}, {1, 5, 9}, {3, 9, 20}}), new long[][] {
            {1, 7, 1, 1, 1, 3}, {2, 6, 1, 257, 4, 4}, {2, 7, 3, 3, 2, 4}, {3, 0, 0, 1792, NONE, 5}});
        rounds(court(1, 2), new long[][] {{1, 3, 1, 1, NONE, 2}});
        rounds(court(0, 2), new long[][] {{0, 3, 0, 0, NONE, 0}});
        rounds(court(2, 0), new long[][] {{0, 0, 0, 0, NONE, 0}});
        // case 2 has no OPEN PAIR
        rounds(court(new int[][] {{1, 2, -1}, {5, 9, -1}}), new long[][] {{1, 7, 1, 1, 4, 2}, {2, 4, 0, 768, NONE, 3}});
        CourtMatcher x = court(8, 8);
        rounds(x, new long[][] {{8, 0, 0, 65280, NONE, 64}});
        int[] wrong = {-1, 6, LOW, HIGH};
        for (int w : wrong) {
            due("round(0, " + w + ")", x.round(0, w), NO);
        }
        int[] wrongRound = {-1, 1, 64, LOW, HIGH};
        for (int w : wrongRound) {
            due("round(" + w + ", 0)", x.round(w, 0), NO);
        }
        CourtMatcher sparse = new CourtMatcher();
        sparse.here(0, 7, 1);
        sparse.here(1, 3, 1);
        sparse.here(1, 7, 1);
        sparse.tell(7, 7, 5);
        rounds(sparse, new long[][] {{1, 136, 128, 128, NONE, 2}});
    }

    private static void promise16() {
        CourtMatcher x = court(new int[][] {{1, 2, -1}, {5, 9, -1}});
        x.here(1, 5, 0);
        x.solve();
        long[][] tolls = {{0, 0, 0}, {4, 0, 0}};
        long[][] pays = {{1, 2, 0, 0}, {5, 6, 4, 0}};
        for (int i = 0; i < 2; i++) {
            for (int who = 0; who < 3; who++) {
                due("toll of " + who + " in " + i, x.price(i, 0, who), tolls[i][who]);
            }
            for (int who = 0; who < 4; who++) {
                due("pay of " + who + " in " + i, x.price(i, 1, who), pays[i][who]);
            }
            due("OUT", x.price(i, 1, 7), 0);
            due("OUT", x.price(i, 0, 7), 0);
        }
        int[] wrong = {-1, 8, LOW, HIGH};
        for (int w : wrong) {
            due("price(0, 0, " + w + ")", x.price(0, 0, w), NO);
            due("price(0, 1, " + w + ")", x.price(0, 1, w), NO);
        }
        int[] wrongSide = {-1, 2, LOW, HIGH};
        for (int w : wrongSide) {
            due("price(0, " + w + ", 0)", x.price(0, w, 0), NO);
        }
        int[] wrongRound = {-1, 2, LOW, HIGH};
        for (int w : wrongRound) {
            due("price(" + w + ", 0, 0)", x.price(w, 0, 0), NO);
        }
        x = court(3, 3);
        long[][] rows = {{LIMIT, LIMIT, LIMIT}, {0, 0, 0}, {LIMIT - 1, LIMIT - 1, LIMIT}};
        for (int judge = 0; judge < 3; judge++) {
            for (int matter = 0; matter < 3; matter++) {
                x.tell(judge, matter, rows[judge][matter]);
            }
        }
        due("rounds", x.solve(), 3);
        due("rise", x.round(0, 4), LIMIT - 1);
        due("rise", x.round(1, 4), 1);
        due("toll", x.price(2, 0, 1), LIMIT);
        due("toll", x.price(2, 0, 2), 1);
        due("pay", x.price(2, 1, 2), LIMIT);
    }

    // ---- the best ones

    private static void promise17() {
        due("empty one", court(3, 0).total(), 0);
        due("nobody", court(0, 1).total(), NO);
        due("too few", court(2, 3).total(), NO);
        due("four", court(FOUR).total(), 5);
        CourtMatcher x = court(8, 8);
        for (int judge = 0; judge < 8; judge++) {
            for (int matter = 0; matter < 8; matter++) {
                x.tell(judge, matter, LIMIT);
            }
        }
        due("eight times LIMIT", x.total(), 8 * LIMIT);
        x.mark(0, 0, 2);
        due("FORCED", x.total(), 8 * LIMIT);
        for (int i = 0; i < 8; i++) {
            x.tell(i, (i + 1) % 8, i);
        }
        due("FORCED one costs", x.total(), 2 * LIMIT + 1 + 2 + 3 + 4 + 5 + 6);
        x.mark(0, 0, 0);
        due("FREE again", x.total(), 28);
        x.here(0, 7, 0);
        due("a judge is missing", x.total(), NO);
        x.here(1, 0, 0);
        due("his case, too", x.total(), 21);
        x.mark(3, 4, 1);
        due("BARRED", x.total() > LIMIT ? 1 : 0, 1);
    }

    private static void promise18() {
        due("empty one", court(0, 0).many(), 1);
        due("none", court(1, 2).many(), 0);
        due("all", court(8, 8).many(), 40320);
        due("8 over 3", court(8, 3).many(), 336);
        due("four", court(FOUR).many(), 2);
        CourtMatcher x = court(3, 3);
        x.tell(0, 0, 1);
        due("without that", x.many(), 4);
        x.mark(0, 0, 2);
        due("with that", x.many(), 2);
        x.mark(0, 0, 1);
        due("BARRED", x.many(), 4);
        x.mark(0, 1, 1);
        due("BARRED", x.many(), 2);
        x.mark(0, 2, 1);
        due("BARRED", x.many(), 0);
    }

    private static void promise19() {
        CourtMatcher x = court(3, 3);
        int[][] order = {{0, 1, 2}, {0, 2, 1}, {1, 0, 2}, {1, 2, 0}, {2, 0, 1}, {2, 1, 0}};
        for (int i = 0; i < 6; i++) {
            for (int matter = 0; matter < 3; matter++) {
                due("best(" + i + ", " + matter + ")", x.best(i, matter), order[i][matter]);
            }
            due("OUT", x.best(i, 3), NONE);
        }
        int[] none = {-1, 6, LOW, HIGH};
        for (int i : none) {
            due("best(" + i + ", 0)", x.best(i, 0), STATE);
            due("best(" + i + ", 7)", x.best(i, 7), STATE);
            due("best(" + i + ", 8)", x.best(i, 8), BAD);
        }
        int[] wrong = {-1, 8, LOW, HIGH};
        for (int w : wrong) {
            due("best(0, " + w + ")", x.best(0, w), BAD);
        }
        CourtMatcher all = court(8, 8);
        for (int matter = 0; matter < 8; matter++) {
            due("the first", all.best(0, matter), matter);
            due("the last", all.best(40319, matter), 7 - matter);
        }
        due("no more", all.best(40320, 0), STATE);
        due("none", court(1, 2).best(0, 0), STATE);
        CourtMatcher sparse = new CourtMatcher();
        sparse.here(0, 2, 1);
        sparse.here(0, 6, 1);
        sparse.here(1, 5, 1);
        due("lower judge ahead", sparse.best(0, 5), 2);
        due("then the other", sparse.best(1, 5), 6);
        due("OUT", sparse.best(1, 0), NONE);
    }

    private static void promise20() {
        CourtMatcher x = court(FOUR);
        int[][] kinds = {{1, 1, 0}, {1, 1, 0}, {0, 0, 2}, {0, 0, 0}};
        for (int judge = 0; judge < 4; judge++) {
            for (int matter = 0; matter < 3; matter++) {
                due("kind(" + judge + ", " + matter + ")", x.kind(judge, matter), kinds[judge][matter]);
            }
            due("OUT", x.kind(judge, 3), 0);
        }
        due("judge OUT", x.kind(7, 0), 0);
        due("only the empty one", court(3, 0).kind(0, 0), 0);
        due("none", court(0, 1).kind(0, 0), STATE);
        int[] wrong = {-1, 8, LOW, HIGH};
        for (int w : wrong) {
            due("kind(" + w + ", 0)", x.kind(w, 0), BAD);
            due("kind(0, " + w + ")", x.kind(0, w), BAD);
            due("BAD ahead of STATE", court(0, 1).kind(w, 0), BAD);
        }
        // case 0 may have judge 0 or 1, case 1 has judge 3 in all; so has case 2 judge 2
        CourtMatcher y = court(new int[][] {{1, 9, 9}, {1, 9, 9}, {9, 9, 1}, {9, 1, 9}});
        due("many", y.many(), 2);
        due("in one of two", y.kind(1, 0), 1);
        due("in both", y.kind(3, 1), 2);
        due("in both", y.kind(2, 2), 2);
        due("in none", y.kind(1, 1), 0);
        x.tell(0, 0, 2);
        due("in all now", x.kind(0, 0), 2);
        due("in none now", x.kind(0, 1), 0);
        due("many", x.many(), 1);
    }

    private static void promise21() {
        CourtMatcher x = court(FOUR);
        long[][] with = {{5, 5, 7}, {5, 5, 10}, {7, 7, 5}, {10, 11, 11}};
        long[][] less = {{5, 5, 5}, {5, 5, 5}, {5, 5, 7}, {5, 5, 5}};
        for (int judge = 0; judge < 4; judge++) {
            for (int matter = 0; matter < 3; matter++) {
                due("with " + judge + ", " + matter, x.room(judge, matter, 0), with[judge][matter]);
                due("without " + judge + ", " + matter, x.room(judge, matter, 1), less[judge][matter]);
            }
        }
        due("OUT, with", x.room(0, 3, 0), NO);
        due("OUT, without", x.room(0, 3, 1), 5);
        due("judge OUT, with", x.room(7, 0, 0), NO);
        x.mark(2, 2, 2);
        due("FORCED, without", x.room(2, 2, 1), NO);
        due("beside it, with", x.room(2, 0, 0), NO);
        x.mark(0, 0, 1);
        due("BARRED, with", x.room(0, 0, 0), NO);
        due("none, without", court(0, 1).room(0, 0, 1), NO);
        due("the empty one, without", court(1, 0).room(0, 0, 1), 0);
        due("the empty one, with", court(1, 0).room(0, 0, 0), NO);
        int[] wrong = {-1, 8, LOW, HIGH};
        for (int w : wrong) {
            due("room(" + w + ", 0, 1)", x.room(w, 0, 1), NO);
            due("room(0, " + w + ", 1)", x.room(0, w, 1), NO);
        }
        int[] wrongWhat = {-1, 2, LOW, HIGH};
        for (int w : wrongWhat) {
            due("room(0, 0, " + w + ")", x.room(0, 0, w), NO);
        }
        due("total stays", x.total(), 5);
    }

    private static void promise22() {
        CourtMatcher x = court(FOUR);
        int[][] judges = {{0, 1, 2, 5}, {1, 0, 2, 5}, {1, 2, 0, 7}, {2, 1, 0, 7}, {0, 2, 1, 10}, {2, 0, 1, 10},
            {3, 1, 2, 10}, {0, 1, 3, 11}};
        for (int i = 0; i < 8; i++) {
            due("TOTAL of " + i, x.next(i, NONE), judges[i][3]);
            for (int matter = 0; matter < 3; matter++) {
                due("case " + matter + " in " + i, x.next(i, matter), judges[i][matter]);
            }
            due("OUT", x.next(i, 3), NONE);
        }
        CourtMatcher three = court(3, 3);
        int[][] order = {{0, 1, 2}, {0, 2, 1}, {1, 0, 2}, {1, 2, 0}, {2, 0, 1}, {2, 1, 0}};
        three.tell(0, 0, 4);
        int[] ranks = {2, 3, 4, 5, 0, 1};
        for (int i = 0; i < 6; i++) {
            due("total", three.next(i, NONE), i < 4 ? 0 : 4);
            for (int matter = 0; matter < 3; matter++) {
                due("next(" + i + ", " + matter + ")", three.next(i, matter), order[ranks[i]][matter]);
            }
        }
        due("no seventh", three.next(6, NONE), NO);
        due("no seventh", three.next(6, 0), NO);
        CourtMatcher all = court(8, 8);
        due("the twelfth", all.next(11, NONE), 0);
        due("its case 0", all.next(11, 0), 0);
        due("its case 4", all.next(11, 4), 5);
        due("its case 5", all.next(11, 5), 7);
        due("its case 6", all.next(11, 6), 6);
        due("its case 7", all.next(11, 7), 4);
        due("no thirteenth", all.next(12, NONE), NO);
        due("the empty one", court(2, 0).next(0, NONE), 0);
        due("the empty one, OUT", court(2, 0).next(0, 0), NONE);
        due("no more", court(2, 0).next(1, NONE), NO);
        due("none", court(0, 1).next(0, NONE), NO);
        int[] wrong = {-1, 12, LOW, HIGH};
        for (int w : wrong) {
            due("next(" + w + ", -1)", all.next(w, NONE), NO);
        }
        int[] wrongWhat = {-2, 8, LOW, HIGH};
        for (int w : wrongWhat) {
            due("next(0, " + w + ")", all.next(0, w), NO);
        }
        three.tell(1, 0, 3);
        due("follows", three.next(2, NONE), 3);
    }

    private static void promise23() {
        CourtMatcher x = court(new int[][] {{1, 9}, {8, 2}, {7, 7}});
        due("least HEAVIEST", x.fair(0), 2);
        due("least TOTAL", x.fair(1), 3);
        due("greater ones", x.fair(2), 4);
        // the best one (0 + 10) has a heavy pair; the fair ones 6 + 6, 6 + 5
        x = court(new int[][] {{0, 6}, {6, 10}, {9, 5}, {6, 20}});
        due("total", x.total(), 5);
        x.here(0, 2, 0);
        due("total", x.total(), 10);
        due("least HEAVIEST", x.fair(0), 6);
        due("least TOTAL with it", x.fair(1), 12);
        due("greater ones", x.fair(2), 2);
        x.tell(0, 1, 10);
        x.tell(1, 1, 11);
        due("least HEAVIEST", x.fair(0), 10);
        due("TOTAL", x.fair(1), 16);
        due("OPEN ones alone", x.fair(2), 2);
        x.mark(1, 1, 1);
        due("BARRED one isn't", x.fair(2), 1);
        // the first PAIR is too heavy, though the best one has it
        x = court(new int[][] {{9, 8}, {8, 0}});
        due("total", x.total(), 9);
        due("least HEAVIEST", x.fair(0), 8);
        due("least TOTAL with it", x.fair(1), 16);
        due("greater ones", x.fair(2), 1);
        CourtMatcher empty = court(2, 0);
        due("the empty one", empty.fair(0), 0);
        due("the empty one", empty.fair(1), 0);
        due("the empty one", empty.fair(2), 0);
        CourtMatcher none = court(0, 1);
        for (int what = 0; what < 3; what++) {
            due("none", none.fair(what), NO);
        }
        int[] wrong = {-1, 3, LOW, HIGH};
        for (int w : wrong) {
            due("fair(" + w + ")", x.fair(w), NO);
        }
        due("total stays", x.total(), 9);
    }

    // ---- days, what is short, what would be

    private static void promise24() {
        CourtMatcher x = court(new int[][] {{5}, {3}, {4}});
        due("days(1)", x.days(1), 3);
        due("days(2)", x.days(2), 7);
        due("days(3)", x.days(3), 12);
        due("days(4)", x.days(4), NO);
        due("days(8)", x.days(8), NO);
        x.mark(0, 0, 2);
        due("FORCED first", x.days(1), 5);
        due("forces no more then", x.days(3), 12);
        due("in thought", x.count(3), 1);
        due("in thought", x.count(4), 0);
        due("in thought", x.total(), 5);
        x.mark(1, 0, 1);
        due("truly BARRED", x.days(2), 9);
        due("truly BARRED", x.days(3), NO);
        x.mark(0, 0, 0);
        x.mark(0, 7, 2);
        due("judge 0 is forced elsewhere", x.days(1), 4);
        due("one that isn't heard goes on forcing", x.days(2), NO);
        x.here(0, 2, 0);
        due("none any more", x.days(1), NO);
        due("none any more", x.day(0, 0), STATE);
        // 0 + 10 comes before 6 + 6
        CourtMatcher sums = court(new int[][] {{0, 6}, {6, 10}});
        due("by TOTAL", sums.days(1), 10);
        due("the other one", sums.days(2), 22);
        sums.mark(0, 0, 2);
        due("the first PAIR, FORCED", sums.days(2), 22);
        due("nobody asks", court(3, 0).days(8), 0);
        due("eight", court(8, 8).days(8), 0);
        due("none", court(0, 1).days(1), NO);
        int[] wrong = {-1, 0, 9, LOW, HIGH};
        for (int w : wrong) {
            due("days(" + w + ")", court(3, 0).days(w), NO);
        }
    }

    private static void promise25() {
        CourtMatcher x = court(3, 2);
        int[][] days = {{0, 1}, {1, 0}, {2, STATE}};
        for (int day = 0; day < 2; day++) {
            for (int matter = 0; matter < 2; matter++) {
                due("day(" + day + ", " + matter + ")", x.day(day, matter), days[day][matter]);
            }
            due("OUT", x.day(day, 2), NONE);
        }
        due("only judge 2 is left", x.day(2, 0), STATE);
        due("STILL, OUT", x.day(2, 7), STATE);
        due("STILL behind", x.day(7, 0), STATE);
        CourtMatcher y = court(new int[][] {{5, 1}, {3, 1}});
        y.here(1, 1, 0);
        due("best first", y.day(0, 0), 1);
        due("then the other", y.day(1, 0), 0);
        due("STILL", y.day(2, 0), STATE);
        y.mark(0, 0, 2);
        due("FORCED first", y.day(0, 0), 0);
        due("forces no more", y.day(1, 0), 1);
        due("STILL", y.day(2, 0), STATE);
        due("a third", court(3, 1).day(2, 0), 2);
        due("nobody asks", court(3, 0).day(7, 0), NONE);
        int[] wrong = {-1, 8, LOW, HIGH};
        for (int w : wrong) {
            due("day(" + w + ", 0)", x.day(w, 0), BAD);
            due("day(0, " + w + ")", x.day(0, w), BAD);
            due("BAD ahead of STATE", x.day(2, w), BAD);
        }
        CourtMatcher square = court(8, 8);
        due("first day", square.day(0, 3), 3);
        due("second day", square.day(1, 0), 1);
        due("second day", square.day(1, 1), 0);
        due("second day", square.day(1, 2), 3);
    }

    private static void promise26() {
        CourtMatcher x = court(2, 3);
        due("left out", x.lack(0), 1);
        due("cases", x.lack(1), 7);
        due("judges", x.lack(2), 3);
        x.mark(0, 0, 2);
        due("left out", x.lack(0), 1);
        due("cases", x.lack(1), 6);
        due("judges", x.lack(2), 2);
        x.mark(1, 1, 1);
        x.mark(1, 2, 1);
        due("left out", x.lack(0), 2);
        due("cases", x.lack(1), 6);
        due("judges", x.lack(2), 0);
        CourtMatcher all = court(8, 8);
        for (int what = 0; what < 3; what++) {
            due("none", all.lack(what), 0);
            due("nobody asks", court(3, 0).lack(what), 0);
        }
        due("nobody hears", court(0, 8).lack(0), 8);
        due("nobody hears", court(0, 8).lack(1), 255);
        // dear PAIRS count as others do
        due("burdens don't matter", court(new int[][] {{1, 9}, {1, 9}}).lack(0), 0);
        // case 0 may have judges 0, 1; cases 1, 2 judge 0 only
        CourtMatcher y = court(new int[][] {{0, 0, 0}, {0, -1, -1}});
        due("left out", y.lack(0), 1);
        due("cases", y.lack(1), 6);
        due("judges", y.lack(2), 1);
        int[] wrong = {-1, 3, LOW, HIGH};
        for (int w : wrong) {
            due("lack(" + w + ")", y.lack(w), BAD);
        }
    }

    private static void promise27() {
        CourtMatcher x = court(FOUR);
        // without judge 0: 8 + 0 + 2; without 1: 8 + 2 + 2; without 2: 3 + 0 + 8
        long[] want = {10, 12, 11, 5, 5, 5, 5, 5};
        for (int who = 0; who < 8; who++) {
            due("without judge " + who, x.without(0, who), want[who]);
        }
        due("without case 0", x.without(1, 0), 2);
        due("without case 1", x.without(1, 1), 3);
        due("without case 2", x.without(1, 2), 3);
        due("without case 7", x.without(1, 7), 5);
        due("in thought", x.total(), 5);
        due("in thought", x.count(0) * 10 + x.count(1), 43);
        CourtMatcher y = court(2, 2);
        due("too few", y.without(0, 0), NO);
        y.tell(0, 0, 6);
        y.tell(1, 0, 7);
        y.mark(0, 0, 2);
        due("FORCED one's judge", y.without(0, 0), NO);
        due("FORCED one's case", y.without(1, 0), 0);
        y.tell(1, 1, NONE);
        y.mark(1, 1, 1);
        due("its judge is forced still", y.without(1, 0), NO);
        due("one too many", court(1, 2).without(1, 1), 0);
        due("nobody asks", court(1, 0).without(0, 0), 0);
        int[] wrong = {-1, 8, LOW, HIGH};
        for (int w : wrong) {
            due("without(0, " + w + ")", x.without(0, w), NO);
            due("without(1, " + w + ")", x.without(1, w), NO);
        }
        int[] wrongSide = {-1, 2, LOW, HIGH};
        for (int w : wrongSide) {
            due("without(" + w + ", 0)", x.without(w, 0), NO);
        }
    }

    // ---- what was told

    private static void row(CourtMatcher x, int sheet, int sort, long... items) {
        x.sheet(sheet, sort, items.length);
        for (int i = 0; i < items.length; i++) {
            x.put(sheet, i, items[i]);
        }
    }

    private static void promise28() {
        CourtMatcher x = court(FOUR);
        for (int sort = 0; sort < 3; sort++) {
            row(x, 0, sort, 1, 0, 2);
            due("TOTAL", x.tells(0, 0), 5);
            due("NEXT ONE", x.tells(0, 1), 1);
            due("in some BEST one", x.tells(0, 2), 3);
            row(x, 0, sort, 0, 2, 1);
            due("TOTAL", x.tells(0, 0), 10);
            due("in some BEST one", x.tells(0, 2), 1);
        }
        row(x, 1, 0, 3, 0, 1);
        due("TOTAL", x.tells(1, 0), 15);
        due("none of the first 12", x.tells(1, 1), NONE);
        due("(0, 1) is in a BEST one", x.tells(1, 2), 1);
        row(x, 1, 0, 3, 2, 1);
        due("in no BEST one", x.tells(1, 2), 0);
        long[][] none = {{0, 1}, {0, 1, 2, 3}, {0, 0, 1}, {0, 1, 0}, {2, 1, 1}, {1, 2, 1}, {0, 1, 4}, {0, 1, -1}, {0, 1, 8}, {0, 1, 2 + (1L << 32)}, {},
            {Long.MIN_VALUE, 1, 2}, {0, Long.MAX_VALUE, 2}};
        for (long[] items : none) {
            row(x, 2, 0, items);
            for (int what = 0; what < 3; what++) {
                due("it tells none", x.tells(2, what), STATE);
            }
        }
        row(x, 2, 0, 0, 1, 2);
        x.mark(1, 1, 1);
        due("BARRED", x.tells(2, 0), STATE);
        x.mark(1, 1, 0);
        x.mark(3, 2, 2);
        due("not OPEN", x.tells(2, 0), STATE);
        row(x, 2, 2, 0, 1, 259);
        due("bytes", x.tells(2, 0), 11);
        x.here(1, 0, 0);
        row(x, 2, 0, 1, 3);
        due("by number of those IN", x.tells(2, 0), 8);
        due("missing", x.tells(3, 0), NOTHING);
        int[] wrong = {-1, 4, LOW, HIGH};
        for (int w : wrong) {
            due("tells(" + w + ", 0)", x.tells(w, 0), BAD);
        }
        int[] wrongWhat = {-1, 3, LOW, HIGH};
        for (int w : wrongWhat) {
            due("tells(2, " + w + ")", x.tells(2, w), BAD);
            due("BAD ahead of -11", x.tells(3, w), BAD);
        }
        CourtMatcher empty = court(2, 0);
        row(empty, 0, 1);
        for (int what = 0; what < 3; what++) {
            due("the empty one", empty.tells(0, what), 0);
        }
        row(empty, 0, 1, 0);
        due("too long", empty.tells(0, 0), STATE);
    }

    private static void promise29() {
        CourtMatcher x = court(FOUR);
        row(x, 1, 2, 9, 9, 9, 9, 9);
        due("film(1, 1)", x.film(1, 1), 3);
        long[] want = {1, 0, 2, NO};
        for (int i = 0; i < 4; i++) {
            due("item " + i, x.item(1, i), want[i]);
        }
        due("longs", x.put(1, 0, 1L << 40), 1);
        due("longs", x.item(1, 0), 1L << 40);
        int[] none = {-1, 2, LOW, HIGH};
        for (int i : none) {
            due("film(1, " + i + ")", x.film(1, i), STATE);
        }
        due("stays", x.item(1, 0), 1L << 40);
        int[] wrong = {-1, 4, LOW, HIGH};
        for (int w : wrong) {
            due("film(" + w + ", 0)", x.film(w, 0), BAD);
            due("BAD ahead of STATE", x.film(w, 9), BAD);
        }
        x.here(1, 0, 0);
        due("cases 1 and 2", x.film(3, 0), 2);
        due("judge of case 1", x.item(3, 0), 1);
        due("judge of case 2", x.item(3, 1), 2);
        due("it tells that one", x.tells(3, 1), 0);
        due("nobody asks", court(2, 0).film(0, 0), 0);
        CourtMatcher y = court(2, 0);
        y.film(0, 0);
        due("a row of none", y.put(0, 0, 1), OUTSIDE);
        due("none", court(0, 1).film(0, 0), STATE);
        CourtMatcher all = court(8, 8);
        due("all eight", all.film(2, 40319), 8);
        for (int matter = 0; matter < 8; matter++) {
            due("judge of case " + matter, all.item(2, matter), 7 - matter);
        }
        due("no ninth", all.item(2, 8), NO);
        due("it tells that one", all.tells(2, 0), 0);
        due("none of the first 12", all.tells(2, 1), NONE);
    }

    private static void promise30() {
        CourtMatcher x = court(3, 2);
        x.mark(0, 0, 1);
        due("OPEN ones", x.image(), 5);
        x.mark(0, 1, 1);
        due("a later one", x.image(), 4);
        x.mark(1, 0, 1);
        x.mark(1, 1, 1);
        due("the later one is kept", x.back(), 4);
        due("nobody", court(0, 0).image(), 0);
        due("all", court(8, 8).image(), 64);
    }

    private static void promise31() {
        CourtMatcher x = court(3, 2);
        due("none yet", x.back(), STATE);
        x.trait(0, 0, 1, 17);
        x.trait(1, 1, 2, -4);
        x.tell(2, 1, 33);
        x.mark(0, 0, 1);
        x.mark(1, 1, 2);
        text(x, 0, "b-z+q");
        text(x, 3, "div(1,0)");
        x.sheet(0, 0, 3);
        x.put(0, 0, 5);
        feed(x, "1+");
        due("image()", x.image(), 2);
        for (int i = 0; i < 8; i++) {
            x.here(0, i, i > 2 ? 1 : 0);
            x.here(1, i, i > 1 ? 1 : 0);
            x.tell(i, 1, 7);
            x.mark(i, i, 0);
        }
        x.trait(0, 0, 1, 0);
        x.trait(1, 1, 2, 0);
        x.empty(0);
        x.empty(3);
        x.put(0, 0, 6);
        x.solve();
        feed(x, "1");
        text(x, 1, "p*2");
        feed(x, "2");
        due("back()", x.back(), 2);
        int[] counts = {3, 2, 2, 1, 1, 1, 1, 1};
        for (int what = 0; what < 8; what++) {
            due("count(" + what + ")", x.count(what), counts[what]);
        }
        due("SHEETS aren't kept", x.item(0, 0), 6);
        due("RULE 1 is EMPTY again", x.told(1, 0), 0);
        due("RULE 0", x.told(0, 0), 5);
        due("RULE 3", x.told(3, 0), 3);
        due("RULE 3 names none", x.why(0, 0, 0), 0);
        due("VALUE", x.value(0, 0, 1), 21);
        due("VALUE", x.value(3, 0, 0), NO);
        due("OWN", x.burden(2, 1), 33);
        due("none OWN", x.burden(0, 1), 21);
        due("MARK", x.mark(1, 1, 2), 2);
        due("TRAIT", x.trait(0, 0, 1, 1), 17);
        due("TRAIT", x.trait(1, 1, 2, 1), -4);
        due("a text now", text(x, 1, ""), 1);
        text(x, 0, "9");
        text(x, 3, "8");
        due("laid back once more", x.back(), 2);
        text(x, 0, "div(1,0)");
        x.image();
        text(x, 0, "   mod(1,0)");
        x.back();
        due("PLACE as kept", x.why(0, 0, 1), 0);
        text(x, 0, "b-z+q");
        text(x, 3, "div(1,0)");
        due("as kept", x.told(0, 0), 5);
        due("as kept", x.value(3, 0, 0), NO);
        due("as kept", x.trait(0, 0, 1, 1), 17);
        due("as kept", x.told(1, 0), 0);
    }

    private static void promise32() {
        CourtMatcher x = court(3, 2);
        x.mark(0, 0, 1);
        x.mark(7, 7, 1);
        x.mark(1, 1, 2);
        x.tell(7, 0, 3);
        x.tell(0, 0, 0);
        x.tell(1, 0, 0);
        x.tell(1, 0, NONE);
        x.solve();
        feed(x, "abc d");
        int[] counts = {3, 2, 2, 1, 2, 2, 1, 5};
        for (int what = 0; what < 8; what++) {
            due("count(" + what + ")", x.count(what), counts[what]);
        }
        int[] wrong = {-1, 8, LOW, HIGH};
        for (int w : wrong) {
            due("count(" + w + ")", x.count(w), BAD);
        }
    }

    // ---- the host

    private static void promise33() {
        CourtMatcher x = new CourtMatcher();
        for (int sort = 0; sort < 3; sort++) {
            due("sheet(" + sort + ", .., 40)", x.sheet(sort, sort, 40), 1);
            due("last item", x.item(sort, 39), 0);
            due("no more", x.item(sort, 40), NO);
        }
        x.put(0, 0, 5);
        due("anew", x.sheet(0, 0, 2), 1);
        due("all 0", x.item(0, 0), 0);
        due("of none", x.sheet(0, 1, 0), 1);
        due("it is there", x.put(0, 0, 1), OUTSIDE);
        due("missing", x.sheet(0, -1, 99), 1);
        due("missing", x.put(0, 0, 1), NOTHING);
        due("missing", x.sheet(0, -1, -99), 1);
        due("missing again", x.sheet(3, -1, 0), 1);
        int[] wrong = {-1, 4, LOW, HIGH};
        for (int w : wrong) {
            due("sheet(" + w + ", 0, 1)", x.sheet(w, 0, 1), BAD);
            due("BAD ahead of -14", x.sheet(w, 0, -1), BAD);
        }
        int[] wrongSort = {-2, 3, LOW, HIGH};
        for (int w : wrongSort) {
            due("sheet(1, " + w + ", 1)", x.sheet(1, w, 1), BAD);
            due("BAD ahead of -14", x.sheet(1, w, -1), BAD);
        }
        due("above 40", x.sheet(1, 1, 41), BAD);
        due("above 40", x.sheet(1, 1, HIGH), BAD);
        due("below 0", x.sheet(1, 1, -1), NEGATIVE);
        due("below 0", x.sheet(1, 1, LOW), NEGATIVE);
        due("stays", x.item(1, 39), 0);
    }

    private static void promise34() {
        CourtMatcher x = new CourtMatcher();
        for (int sort = 0; sort < 3; sort++) {
            x.sheet(sort, sort, 3);
        }
        long[][] kept = {{0x123456789ABCDEFL, 0x123456789ABCDEFL, 0xFFFFFFFF89ABCDEFL, -17}, {-1, -1, -1, -1},
            {128, 128, 128, -128}, {255, 255, 255, -1}, {256, 256, 256, 0}, {1L << 31, 1L << 31, -(1L << 31), 0},
            {Long.MIN_VALUE, Long.MIN_VALUE, 0, 0}, {NO, NO, 0, 0}, {127, 127, 127, 127}};
        for (long[] row : kept) {
            for (int sort = 0; sort < 3; sort++) {
                due("put " + row[0], x.put(sort, 2, row[0]), 1);
                due("item of sort " + sort + ", " + row[0], x.item(sort, 2), row[1 + sort]);
                due("beside", x.item(sort, 1), 0);
            }
        }
        due("missing", x.put(3, 0, 1), NOTHING);
        due("missing, outside", x.put(3, -1, 1), NOTHING);
        int[] outside = {-1, 3, LOW, HIGH};
        for (int i : outside) {
            due("put(0, " + i + ", 1)", x.put(0, i, 1), OUTSIDE);
        }
        int[] wrong = {-1, 4, LOW, HIGH};
        for (int w : wrong) {
            due("put(" + w + ", 0, 1)", x.put(w, 0, 1), BAD);
        }
    }

    private static void promise35() {
        CourtMatcher x = new CourtMatcher();
        x.sheet(2, 0, 2);
        x.put(2, 0, 11);
        x.put(2, 1, -12);
        due("item(2, 0)", x.item(2, 0), 11);
        due("item(2, 1)", x.item(2, 1), -12);
        int[] outside = {-1, 2, 40, LOW, HIGH};
        for (int i : outside) {
            due("item(2, " + i + ")", x.item(2, i), NO);
        }
        due("missing", x.item(1, 0), NO);
        int[] wrong = {-1, 4, LOW, HIGH};
        for (int w : wrong) {
            due("item(" + w + ", 0)", x.item(w, 0), NO);
        }
        x.sheet(2, -1, 0);
        due("missing", x.item(2, 0), NO);
    }

    private static void promise36() {
        CourtMatcher x = new CourtMatcher();
        row(x, 0, 1, 1, 2, 3, 4, 5);
        row(x, 1, 1, 6, 7, 8);
        due("copy", x.copy(0, 1, 1, 0, 2), 2);
        long[] want = {2, 3, 8};
        for (int i = 0; i < 3; i++) {
            due("item " + i, x.item(1, i), want[i]);
        }
        due("onto itself", x.copy(0, 0, 0, 1, 4), 4);
        long[] forth = {1, 1, 2, 3, 4};
        for (int i = 0; i < 5; i++) {
            due("as they were " + i, x.item(0, i), forth[i]);
        }
        due("onto itself", x.copy(0, 1, 0, 0, 4), 4);
        long[] back = {1, 2, 3, 4, 4};
        for (int i = 0; i < 5; i++) {
            due("as they were " + i, x.item(0, i), back[i]);
        }
        due("none, at the end", x.copy(0, 5, 1, 3, 0), 0);
        int[][] outside = {{0, 0, -1}, {-1, 0, 1}, {0, -1, 1}, {3, 0, 3}, {0, 1, 3}, {6, 0, 0}, {0, 4, 0}, {0, 0, HIGH},
            {HIGH, 0, 1}, {0, HIGH, 1}, {1, 0, HIGH}, {LOW, 0, 1}, {0, LOW, LOW}, {HIGH, HIGH, HIGH}, {0, 0, 4}};
        for (int[] w : outside) {
            due("copy(0, " + w[0] + ", 1, " + w[1] + ", " + w[2] + ")", x.copy(0, w[0], 1, w[1], w[2]), OUTSIDE);
        }
        for (int i = 0; i < 3; i++) {
            due("stays " + i, x.item(1, i), want[i]);
        }
        row(x, 2, 2, 1, 2, 3);
        due("unlike", x.copy(0, 0, 2, 0, 1), UNLIKE);
        due("unlike ahead of outside", x.copy(0, 0, 2, 0, -1), UNLIKE);
        due("missing", x.copy(0, 0, 3, 0, 1), NOTHING);
        due("missing", x.copy(3, 0, 0, 0, 1), NOTHING);
        due("missing ahead of outside", x.copy(3, -1, 3, 0, 1), NOTHING);
        int[] wrong = {-1, 4, LOW, HIGH};
        for (int w : wrong) {
            due("copy(" + w + ", ..)", x.copy(w, 0, 3, 0, 1), BAD);
            due("copy(.., " + w + ", ..)", x.copy(3, 0, w, 0, 1), BAD);
        }
    }

    private static void promise37() {
        CourtMatcher x = court(2, 2);
        row(x, 0, 0, 3, LIMIT, LIMIT + 4, -5, -LIMIT - 6, Long.MIN_VALUE, Long.MAX_VALUE, -LIMIT, LIMIT - 1);
        due("lay", x.lay(0, 1, 0, 1, 8), 8);
        long[] want = {0, 4, 5, 6, 854775808, 854775807, 0, LIMIT - 1};
        for (int matter = 0; matter < 8; matter++) {
            due("burden of " + matter, x.burden(1, matter), want[matter]);
        }
        due("OWN ones", x.count(5), 8);
        due("only the first", x.lay(0, 0, 0, 0, 1), 1);
        due("OWN ones", x.count(5), 9);
        due("burden", x.burden(0, 0), 3);
        due("total follows", x.total(), 0);
        x.tell(0, 1, 9);
        due("total", x.total(), 7);
        x.lay(0, 0, 0, 3, 1);
        due("total follows", x.total(), 9);
        x.lay(0, 0, 0, 0, 1);
        due("total follows", x.total(), 7);
        row(x, 1, 2, 200, 1);
        due("bytes", x.lay(1, 0, 2, 0, 2), 2);
        due("without sign", x.burden(0, 0), 56);
        row(x, 2, 1, 1L << 31);
        due("ints", x.lay(2, 0, 1, 0, 1), 1);
        due("without sign, modulo LIMIT", x.burden(0, 0), 147483648);
        due("another sort", x.lay(2, 0, 0, 0, 1), UNLIKE);
        due("another sort ahead of outside", x.lay(2, 0, 2, 5, 1), UNLIKE);
        due("missing", x.lay(3, 0, 0, 0, 1), NOTHING);
        due("missing, outside", x.lay(3, 0, 2, -1, 1), NOTHING);
        int[][] outside = {{-1, 1}, {9, 1}, {8, 2}, {2, 8}, {HIGH, 1}, {LOW, 8}, {HIGH - 3, 8}};
        for (int[] w : outside) {
            due("lay(0, 0, 0, " + w[0] + ", " + w[1] + ")", x.lay(0, 0, 0, w[0], w[1]), OUTSIDE);
        }
        due("stays", x.burden(0, 0), 147483648);
        int[] wrong = {-1, 4, LOW, HIGH};
        for (int w : wrong) {
            due("no such SHEET", x.lay(w, 0, 0, 0, 1), BAD);
        }
        int[] wrongJudge = {-1, 8, LOW, HIGH};
        for (int w : wrongJudge) {
            due("no such judge", x.lay(3, w, 0, 0, 1), BAD);
        }
        int[] wrongSort = {-1, 3, LOW, HIGH};
        for (int w : wrongSort) {
            due("no such sort", x.lay(3, 0, w, 0, 1), BAD);
        }
        int[] wrongSize = {-1, 0, 9, LOW, HIGH};
        for (int w : wrongSize) {
            due("no such n", x.lay(0, 0, 1, 0, w), BAD);
        }
    }

    public static void main(String[] args) {
        Check.test("promise 1: a new object", PromisesTest::promise1);
        Check.test("promise 2: here", PromisesTest::promise2);
        Check.test("promise 3: trait", PromisesTest::promise3);
        Check.test("promise 4: tell", PromisesTest::promise4);
        Check.test("promise 5: burden", PromisesTest::promise5);
        Check.test("promise 6: mark", PromisesTest::promise6);
        Check.test("promise 7: open", PromisesTest::promise7);
        Check.test("promise 8: feed", PromisesTest::promise8);
        Check.test("promise 9: text, what reads", PromisesTest::promise9Texts);
        Check.test("promise 9: text, faults", PromisesTest::promise9Faults);
        Check.test("promise 9: text, rings", PromisesTest::promise9Rules);
        Check.test("promise 9: text, the tape", PromisesTest::promise9Tape);
        Check.test("promise 9: text, weights", PromisesTest::promise9Weight);
        Check.test("promise 10: empty", PromisesTest::promise10);
        Check.test("promise 11: told", PromisesTest::promise11);
        Check.test("promise 12: value", PromisesTest::promise12);
        Check.test("promise 13: why", PromisesTest::promise13);
        Check.test("promise 14: solve", PromisesTest::promise14);
        Check.test("promise 15: round", PromisesTest::promise15);
        Check.test("promise 16: price", PromisesTest::promise16);
        Check.test("promise 17: total", PromisesTest::promise17);
        Check.test("promise 18: many", PromisesTest::promise18);
        Check.test("promise 19: best", PromisesTest::promise19);
        Check.test("promise 20: kind", PromisesTest::promise20);
        Check.test("promise 21: room", PromisesTest::promise21);
        Check.test("promise 22: next", PromisesTest::promise22);
        Check.test("promise 23: fair", PromisesTest::promise23);
        Check.test("promise 24: days", PromisesTest::promise24);
        Check.test("promise 25: day", PromisesTest::promise25);
        Check.test("promise 26: lack", PromisesTest::promise26);
        Check.test("promise 27: without", PromisesTest::promise27);
        Check.test("promise 28: tells", PromisesTest::promise28);
        Check.test("promise 29: film", PromisesTest::promise29);
        Check.test("promise 30: image", PromisesTest::promise30);
        Check.test("promise 31: back", PromisesTest::promise31);
        Check.test("promise 32: count", PromisesTest::promise32);
        Check.test("promise 33: sheet", PromisesTest::promise33);
        Check.test("promise 34: put", PromisesTest::promise34);
        Check.test("promise 35: item", PromisesTest::promise35);
        Check.test("promise 36: copy", PromisesTest::promise36);
        Check.test("promise 37: lay", PromisesTest::promise37);
        Check.end();
    }
}
